/-! BOTH: drop -/
theorem HAt_g {nF nF' m m' t h : Nat} {L : Nat → Nat} {w w' : World} (hI : HAt nF m L w t h) (a3 : ∀ c, 3 ≤ c → c ≤ 6 → w' c = w c) (ag : ∀ c, t ≤ c → c ≤ t + 4 → w' c = w c) (aF : ∀ r k, FFA nF w (h : Int) 0 r k ↔ FFA nF' w' (h : Int) 0 r k) (aR : RS (RrA m w) (RrA m' w')) : HAt nF' m' L w' t h := by
  obtain ⟨N, ρ, c, Lc, a1, a2, a3', a4⟩ := hI
  have hSA : SA w' = SA w := SA_c5 (fun c x y => a3 c x (by omega))
  refine ⟨N, ρ, c, Lc, AMod_congr a3 ag a1, VCs_3 (a3 3 (by omega) (by omega)) a2, by rw [ag _ (Nat.le_refl _) (by omega)]; exact a3', ?_⟩
  rw [hSA]; exact aR.least (FF_least aF a4)
theorem cnt_off {P Q : Nat → Bool} {f : Nat} (hP : P f = true) (hQ : Q f = false) (ho : ∀ i, i ≠ f → Q i = P i) : ∀ n, f < n → cnt Q n + 1 = cnt P n := by
  intro n
  induction n with
  | zero => intro h; omega
  | succ n ih =>
    intro h
    show cnt Q n + (if Q n = true then 1 else 0) + 1 = cnt P n + (if P n = true then 1 else 0)
    by_cases q : n = f
    · subst q
      rw [hP, hQ, cnt_congr (P := Q) (Q := P) (fun i hi => ho i (by omega)), if_neg (by decide), if_pos rfl]
    · rw [ho n q]
      have := ih (by omega)
      omega
theorem dropB_n {w : World} {n : Nat} (hn : w 1 7 = (n : Int)) (h24 : n ≤ 24) : f_Re_drop_82 w 0 0 = some (w, ((cnt (fun f => decide (w 12 f = 0)) n : Nat) : Int)) := by
  unfold f_Re_drop_82
  refine lp_go (F := fun z : (Int × Int) => f_Re_drop_82B w z.1 z.2) (fun k => (((cnt (fun f => decide (w 12 f = 0)) k : Nat) : Int), (k : Int))) _ n (fun k hk => ?_) ?_
  · show f_Re_drop_82B w ((cnt (fun f => decide (w 12 f = 0)) k : Nat) : Int) (k : Int) = some (Sum.inl (((cnt (fun f => decide (w 12 f = 0)) (k + 1) : Nat) : Int), ((k + 1 : Nat) : Int)))
    have hc := cnt_le (P := fun f => decide (w 12 f = 0)) k
    have es : cnt (fun f => decide (w 12 f = 0)) (k + 1) = cnt (fun f => decide (w 12 f = 0)) k + (if decide (w 12 k = 0) = true then 1 else 0) := rfl
    unfold f_Re_drop_82B f_Re_drop_107
    rw [hn, if_neg (by omega), gd_t ⟨by omega, by omega⟩, Int.toNat_natCast, es, bl_s, bl_s, bl_s, bl_s, wr_of (x := (k : Int) + 1) ⟨by omega, by omega⟩]
    by_cases q : w 12 k = 0
    · rw [if_pos q, if_pos (by simpa using q), wr_of (x := ((cnt (fun f => decide (w 12 f = 0)) k : Nat) : Int) + 1) ⟨by omega, by omega⟩]
      rfl
    · rw [if_neg q, if_neg (by simpa using q), wr_of (x := ((cnt (fun f => decide (w 12 f = 0)) k : Nat) : Int) + 0) ⟨by omega, by omega⟩]
      rfl
  · show f_Re_drop_82B w ((cnt (fun f => decide (w 12 f = 0)) n : Nat) : Int) (n : Int) = _
    unfold f_Re_drop_82B
    rw [hn, if_pos (Int.le_refl _)]
theorem st_drop : St_drop II := by
  intro wA wB hII x1 hx1
  obtain ⟨nF, m, d, now, top, L, g, hI⟩ := id hII
  obtain ⟨i1, i2, i3, i4, i5, i6, i7, i8, i9, i10, i11⟩ := id hI
  have hm : m ≤ 12 := i3.1.2.2.1
  have n7A : wA 7 0 = (nF : Int) := i2.1.1
  have n7B : wB 1 7 = (nF : Int) := i2.2.1.1
  have h24 : nF ≤ 24 := i2.1.2.1
  have hno : ∀ x : Int, ¬ x = 0 → f_Re_drop_35 wB x1 x = some (up wB 1 0 x, 0) := fun x hx => by
    unfold f_Re_drop_35
    rw [refused_n, bnd_s]
    show (if (if x = 0 then (0 : Int) else 1) = 0 then _ else some (up wB 1 0 x, 0)) = _
    rw [if_neg hx]
    exact if_neg z10
  have ewn : wr ((nF : Int) - 1) = (nF : Int) - 1 := wr_of (x := (nF : Int) - 1) ⟨by omega, by omega⟩
  by_cases q1 : 0 ≤ x1 ∧ x1 ≤ (nF : Int) - 1
  · obtain ⟨f, rfl⟩ : ∃ f : Nat, x1 = (f : Int) := ⟨x1.toNat, by omega⟩
    have hf : f < nF := by omega
    have hisf := isFact_n n7A h24 hf
    obtain ⟨k1, k2, ⟨k3, k3'⟩, ⟨k4, k5, k6⟩, k7, k8⟩ := i2.2.2.1 f hf
    have hA0 : f_Dm_drop wA (f : Int) = if wA 13 f = 0 then (bnd (f_Fa_setDropped wA (f : Int) 1) fun v12 => bnd (f_Fa_fromOf v12 (f : Int)) fun v15 => bnd (f_Fa_toOf v12 (f : Int)) fun v18 => bnd (f_Dm_renew v12 v15 v18) fun v21 => if v21.2 = 0 then (bnd (f_Fa_setDropped v21.1 (f : Int) 0) fun v27 => some (v27, 3, 0)) else (some (v21.1, 0, v21.1 7 1))) else some (wA, 3, 0) := by
      unfold f_Dm_drop f_Fa_isDropped
      rw [if_neg (by omega), n7A, if_pos (by omega), hisf, bnd_s, if_neg z10, gd_t ⟨by omega, by omega⟩, Int.toNat_natCast]
      by_cases q : wA 13 f = 0
      · rw [if_pos q, bnd_s, if_pos rfl, if_pos q]
      · rw [if_neg q, bnd_s, if_neg z10, if_neg q]
    have hB0 : f_Re_drop wB (f : Int) = if wA 13 f = 0 then f_Re_drop_35 wB (f : Int) 0 else f_Re_drop_35 wB (f : Int) 2 := by
      unfold f_Re_drop
      rw [n7B, ewn, inB_n, bnd_s, if_pos q1, if_neg z10, gd_t ⟨by omega, by omega⟩, Int.toNat_natCast, k7]
    by_cases q13 : wA 13 f = 0
    · have hcn := cnt_le (P := fun f => decide (wA 13 f = 0)) nF
      have h71 := i2.2.2.2
      have hc1 := cnt_1 (P := fun f => decide (wA 13 f = 0)) hf (by simpa using q13)
      obtain ⟨wA1, hw1⟩ : ∃ w, w = up (up wA 13 f 1) 7 1 (wA 7 1 - 1) := ⟨_, rfl⟩
      obtain ⟨wB1, hu1⟩ : ∃ w, w = up (up wB 1 0 0) 12 f 1 := ⟨_, rfl⟩
      have aO : ∀ k, k ≠ 7 → k ≠ 13 → wA1 k = wA k := fun k h1 h2 => by rw [hw1]; funext q; simp [up, h1, h2]
      have a13 : ∀ q, q ≠ f → wA1 13 q = wA 13 q := fun q h => by rw [hw1]; simp [up, h]
      have a13f : wA1 13 f = 1 := by rw [hw1]; simp [up]
      have a70 : wA1 7 0 = (nF : Int) := by rw [hw1]; simp [up, n7A]
      have a71 : wA1 7 1 = wA 7 1 - 1 := by rw [hw1]; simp [up]
      have bO : ∀ k, k ≠ 1 → k ≠ 12 → wB1 k = wB k := fun k h1 h2 => by rw [hu1]; funext q; simp [up, h1, h2]
      have b12 : ∀ q, q ≠ f → wB1 12 q = wB 12 q := fun q h => by rw [hu1]; simp [up, h]
      have b12f : wB1 12 f = 1 := by rw [hu1]; simp [up]
      have b1 : ∀ k, k ≠ 0 → wB1 1 k = wB 1 k := fun k h => by rw [hu1]; simp [up, h]
      have b10 : wB1 1 0 = 0 := by rw [hu1]; simp [up]
      have hFac : IFac nF wA1 wB1 := by
        obtain ⟨f1, f2, f3, f4⟩ := i2
        refine ⟨⟨a70, h24, fun j hj => ?_⟩, ⟨by rw [b1 7 (by omega)]; exact n7B, h24, fun j hj => ?_⟩, fun j hj => ?_, ?_⟩
        · obtain ⟨r, k, y1, y2, y3, y4, y5, y6⟩ := f1.2.2 j hj
          exact ⟨r, k, by rw [aO 8 (by omega) (by omega)]; exact y1, y2, by rw [aO 3 (by omega) (by omega)]; exact y3, by rw [aO 9 (by omega) (by omega)]; exact y4, y5, (Vc_3 (aO 3 (by omega) (by omega))).mpr y6⟩
        · obtain ⟨r, k, y1, y2, y3, y4, y5, y6⟩ := f2.2.2 j hj
          exact ⟨r, k, by rw [bO 7 (by omega) (by omega)]; exact y1, y2, by rw [bO 3 (by omega) (by omega)]; exact y3, by rw [bO 8 (by omega) (by omega)]; exact y4, y5, (Vc_3 (bO 3 (by omega) (by omega))).mpr y6⟩
        · obtain ⟨z1, z2, z3, z4, z5, z6⟩ := f3 j hj
          rw [aO 8 (by omega) (by omega), aO 9 (by omega) (by omega), aO 10 (by omega) (by omega), aO 11 (by omega) (by omega), aO 12 (by omega) (by omega), bO 7 (by omega) (by omega), bO 8 (by omega) (by omega), bO 9 (by omega) (by omega), bO 10 (by omega) (by omega), bO 11 (by omega) (by omega)]
          refine ⟨z1, z2, z3, z4, ?_⟩
          by_cases q : j = f
          · subst q
            rw [a13f, b12f]
            exact ⟨rfl, Or.inr rfl⟩
          · rw [a13 j q, b12 j q]
            exact ⟨z5, z6⟩
        · have := cnt_off (P := fun f => decide (wA 13 f = 0)) (Q := fun f => decide (wA1 13 f = 0)) (f := f) (by simpa using q13) (by show decide (wA1 13 f = 0) = false; rw [a13f]; rfl) (fun i hi => by show decide (wA1 13 i = 0) = decide (wA 13 i = 0); rw [a13 i hi]) nF hf
          rw [a71, f4]
          omega
      have hL := hI.low
      have hL1 : Low nF m d now top L wA1 wB1 := Low_fac (fun k _ h => aO k (by omega) (by omega)) (fun k h1 h2 h3 => bO k (by omega) (by omega)) (fun k hk => b1 k (by omega)) hL hFac
      have hr1 : IRef g wA1 := ⟨i8.1, i8.2.1, by rw [aO 108 (by omega) (by omega), aO 109 (by omega) (by omega)]; exact i8.2.2⟩
      have hV1 : VV (wA1 104) := by rw [aO 104 (by omega) (by omega)]; exact i10
      have hVB1 : VB wB1 := VB_congr (bO 23 (by omega) (by omega)) (bO 24 (by omega) (by omega)) i11
      have hRr : RrA m wA1 = RrA m wA := RrA_fac hm (fun k h1 h2 => aO k (by omega) (by omega))
      obtain ⟨fr, hfr⟩ : ∃ n : Nat, wA 11 f = (n : Int) := ⟨(wA 11 f).toNat, by omega⟩
      obtain ⟨to, hto⟩ : ∃ n : Nat, wA 12 f = (n : Int) := ⟨(wA 12 f).toNat, by omega⟩
      obtain ⟨w', v, u', p1, p2, p3, p4, p5, p6, p7⟩ := both_new (a := fr) (b := to) hL1 hr1 hV1 hVB1 (by omega) (by omega) (fun h h4 hn => by
        have hg := i8.rng (i := h) (by omega)
        refine HAt_g (nF' := nF) (m' := m) (w' := wA1) ((i9 h h4).A.1).t (fun k h1 h2 => aO k (by omega) (by omega)) (fun k h1 h2 => aO k (by omega) (by omega)) (fun r k => ?_) (by rw [hRr]; exact RS.refl)
        unfold FFA FaC
        rw [aO 8 (by omega) (by omega), aO 9 (by omega) (by omega), aO 11 (by omega) (by omega), aO 12 (by omega) (by omega)]
        refine exists_congr fun j => and_congr_right fun hj => and_congr ?_ Iff.rfl
        by_cases q : j = f
        · subst q
          rw [hfr, hto]
          exact ⟨fun z => absurd ⟨Int.ofNat_le.mp z.2.1, Int.ofNat_le.mp z.2.2.1⟩ hn, fun z => absurd ⟨Int.ofNat_le.mp z.2.1, Int.ofNat_le.mp z.2.2.1⟩ hn⟩
        · rw [a13 j q])
      have hset : f_Fa_setDropped wA (f : Int) 1 = some wA1 := by
        unfold f_Fa_setDropped f_Fa_setDropped_39
        have e : up wA 13 f 1 7 1 = wA 7 1 := by simp [up]
        rw [hisf, bnd_s, if_neg z10, gd_t ⟨by omega, by omega⟩, Int.toNat_natCast, q13, if_neg (by decide), gd_t ⟨by omega, by omega⟩, gd_t (Or.inr rfl), bl_s, if_neg z10, e, bl_s, wr_of (x := wA 7 1 + (-1)) ⟨by omega, by omega⟩, hw1]
        rfl
      have hfrom : f_Fa_fromOf wA1 (f : Int) = some (fr : Int) := by
        unfold f_Fa_fromOf
        rw [isFact_n a70 h24 hf, bnd_s, if_neg z10, gd_t ⟨by omega, by omega⟩, Int.toNat_natCast, aO 11 (by omega) (by omega), hfr]
      have htoo : f_Fa_toOf wA1 (f : Int) = some (to : Int) := by
        unfold f_Fa_toOf
        rw [isFact_n a70 h24 hf, bnd_s, if_neg z10, gd_t ⟨by omega, by omega⟩, Int.toNat_natCast, aO 12 (by omega) (by omega), hto]
      have hArun : f_Dm_drop wA (f : Int) = if v = 0 then (bnd (f_Fa_setDropped w' (f : Int) 0) fun v27 => some (v27, 3, 0)) else some (w', 0, w' 7 1) := by
        rw [hA0, if_pos q13, hset, bnd_s, hfrom, bnd_s, htoo, bnd_s, p1, bnd_s]
      have hBrun : f_Re_drop wB (f : Int) = if v = 0 then (bl (up u' 12 f 0) fun w14 => bnd (f_Re_buildAll w14 ) fun v16 => bnd (f_Re_refused v16.1 2) fun v19 => some (v19.1, 0)) else f_Re_drop_82 u' 0 0 := by
        rw [hB0, if_pos q13]
        unfold f_Re_drop_35
        rw [refused_n, bnd_s]
        show (if (if (0 : Int) = 0 then (0 : Int) else 1) = 0 then _ else _) = _
        rw [if_pos (if_pos rfl), gd_t ⟨by omega, by omega⟩, bl_s, Int.toNat_natCast]
        show bnd (f_Re_buildAll (up (up wB 1 0 0) 12 f 1)) _ = _
        rw [← hu1, p2, bnd_s, gd_t ⟨by omega, by omega⟩]
      have u10 : u' 1 0 = 0 := by rw [p3.f (by omega) (by omega)]; exact b10
      rcases p7 with ⟨hv1, g', hInv⟩ | ⟨hv0, hF1⟩
      · have j2 := hInv.2.1
        have hval : w' 7 1 = ((cnt (fun f => decide (u' 12 f = 0)) nF : Nat) : Int) := by
          rw [j2.2.2.2, cnt_congr (P := fun f => decide (w' 13 f = 0)) (Q := fun f => decide (u' 12 f = 0)) (fun i hi => by show decide (w' 13 i = 0) = decide (u' 12 i = 0); rw [(j2.2.2.1 i hi).2.2.2.2.1])]
        refine ⟨(w', 0, w' 7 1), (u', w' 7 1), ?_, ?_, ?_, Or.inl rfl, fun _ => rfl, nF, m, d, now, top, L, g', hInv⟩
        · rw [hArun, hv1, if_neg z10]
        · rw [hBrun, hv1, if_neg z10, dropB_n j2.2.1.1 h24, hval]
        · unfold f_Re_thrown
          show some (u' 1 0) = _
          rw [u10]
          rfl
      · obtain ⟨wA2, hw2⟩ : ∃ w, w = up (up w' 13 f 0) 7 1 (wA 7 1) := ⟨_, rfl⟩
        obtain ⟨wB2, hu2⟩ : ∃ w, w = up u' 12 f 0 := ⟨_, rfl⟩
        have a2 : ∀ k, k ≠ 7 → k ≠ 13 → wA2 k = w' k := fun k h1 h2 => by rw [hw2]; funext q; simp [up, h1, h2]
        have a2o : ∀ k, k < 98 → wA2 k = wA k := fun k hk => by
          by_cases q7 : k = 7
          · subst q7
            funext q
            by_cases e : q = 1
            · subst e; rw [hw2]; simp [up]
            · have e1 : wA2 7 q = w' 7 q := by rw [hw2]; simp [up, e]
              have e2 : wA1 7 q = wA 7 q := by rw [hw1]; simp [up, e]
              rw [e1, p6 7 (by omega), e2]
          · by_cases q13' : k = 13
            · subst q13'
              funext q
              by_cases e : q = f
              · subst e; rw [q13, hw2]; simp [up]
              · have e1 : wA2 13 q = w' 13 q := by rw [hw2]; simp [up, e]
                rw [e1, p6 13 (by omega), a13 q e]
            · rw [a2 k q7 q13', p6 k (by omega), aO k q7 q13']
        have b2 : ∀ k, k ≠ 12 → wB2 k = u' k := fun k hk => by rw [hu2]; funext q; simp [up, hk]
        have b2o : ∀ k, 2 ≤ k → k < 20 → wB2 k = wB k := fun k h1 h2 => by
          by_cases q : k = 12
          · subst q
            funext j
            by_cases e : j = f
            · subst e; rw [k7, q13, hu2]; simp [up]
            · have e1 : wB2 12 j = u' 12 j := by rw [hu2]; simp [up, e]
              rw [e1, p3.cell (by omega) (by omega), b12 j e]
          · rw [b2 k q, p3.cell (by omega) (by omega), bO k (by omega) q]
        have hL2 : Low nF m d now top L wA2 wB2 := Low_congr a2o b2o (fun k hk => by rw [b2 1 (by omega), p3.f (by omega) (by omega), b1 k (by omega)]) hL
        have hr2 : IRef g wA2 := by
          have := hF1.ref hr1
          exact ⟨this.1, this.2.1, by rw [a2 108 (by omega) (by omega), a2 109 (by omega) (by omega)]; exact this.2.2⟩
        obtain ⟨u2, t1, t2, t3⟩ := both_back hL2 hr2 (by rw [a2 104 (by omega) (by omega)]; exact p5) (VB_congr (b2 23 (by omega)) (b2 24 (by omega)) p4) (fun h h4 => by
          have hg := i8.rng (i := h) (by omega)
          refine HAc_g (nF' := nF) (m' := m) (w' := wA2) ((i9 h h4).A.1) (fun k h1 h2 => a2o k (by omega)) (fun k h1 h2 => ?_) (fun r' k' => by rw [FFA_congr a2o]) (by rw [RrA_c hm a2o]; exact RS.refl) (Or.inr ⟨?_, ?_, FCA_c a2o⟩)
          · rw [a2 k (by omega) (by omega), hF1.2.1 h h4 k h1 h2, aO k (by omega) (by omega)]
          · rw [a2 150 (by omega) (by omega), hF1.2.2.2 150 (by omega), aO 150 (by omega) (by omega)]
          · rw [a2 151 (by omega) (by omega), hF1.2.2.2 151 (by omega), aO 151 (by omega) (by omega)])
        refine ⟨(wA2, 3, 0), (up u2 1 0 2, 0), ?_, ?_, thrown_n, Or.inr (Or.inr rfl), fun e => n30 e, nF, m, d, now, top, L, g, Inv_up10 t3⟩
        · have w70 : w' 7 0 = (nF : Int) := by rw [p6 7 (by omega)]; exact a70
          have w71 : w' 7 1 = wA 7 1 - 1 := by rw [p6 7 (by omega)]; exact a71
          have w13 : w' 13 f = 1 := by rw [p6 13 (by omega)]; exact a13f
          rw [hArun, hv0, if_pos rfl]
          unfold f_Fa_setDropped f_Fa_setDropped_39
          have e : up w' 13 f 0 7 1 = wA 7 1 - 1 := by simp [up, w71]
          rw [isFact_n w70 h24 hf, bnd_s, if_neg z10, gd_t ⟨by omega, by omega⟩, Int.toNat_natCast, w13, if_neg (by decide), gd_t ⟨by omega, by omega⟩, gd_t (Or.inl rfl), bl_s, if_pos rfl, e, bl_s, wr_of (x := (wA 7 1 - 1) + 1) ⟨by omega, by omega⟩, show wA 7 1 - 1 + 1 = wA 7 1 by omega, ← hw2, bnd_s]
        · rw [hBrun, hv0, if_pos rfl, bl_s, ← hu2, t1, bnd_s, refused_n, bnd_s]
    · exact no_v (e := 3) (x := 2) (fun e => e = 0 ∨ e = 1 ∨ e = 3) hII (by decide) (by rw [hA0, if_neg q13]) (by rw [hB0, if_neg q13, hno 2 z20]) rfl (Or.inr (Or.inr rfl))
  · refine no_v (e := 1) (x := 1) (fun e => e = 0 ∨ e = 1 ∨ e = 3) hII (by decide) ?_ ?_ rfl (Or.inr (Or.inl rfl))
    · unfold f_Dm_drop
      by_cases q : x1 < 0
      · rw [if_pos q]
      · rw [if_neg q, n7A, if_neg (by omega)]
    · unfold f_Re_drop
      rw [n7B, ewn, inB_n, bnd_s, if_neg q1, if_pos rfl, hno 1 z10]
