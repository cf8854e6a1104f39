/-! BOTH: remove -/
theorem RrA_22 {m : Nat} {w w' : World} (hm : m ≤ 12) (h : ∀ c, 22 ≤ c → c < 98 → w' c = w c) : RrA m w' = RrA m w := by
  unfold RrA Rof
  funext R
  refine propext (exists_congr fun i => and_congr_right fun hi => ?_)
  unfold FA GA
  rw [RB_congr (h _ (by omega) (by omega)) (h _ (by omega) (by omega)) (h _ (by omega) (by omega)) (h _ (by omega) (by omega)), h _ (by omega) (by omega)]
/-- one rule's mark changed -/
theorem flag_RB {j b : Nat} {wA wA' : World} (hb : b % 4 = 2) (hA : ∀ c k, ¬ (c = 22 + 4 * j ∧ k = 2) → wA' c k = wA c k) : RB wA' b = RB wA b := by
  have aC : ∀ c, c ≠ 22 + 4 * j → wA' c = wA c := fun c h => funext fun k => hA c k (fun z => h z.1)
  unfold RB
  rw [hA b 0 (by omega), hA b 1 (by omega), aC (b + 1) (by omega), aC (b + 2) (by omega), aC (b + 3) (by omega)]
theorem LowR_flag {nF m d now j : Nat} {x : Int} {wA wB wA' wB' : World} (hj : j < m) (hx : x = 0 ∨ x = 1) (hA : ∀ c k, ¬ (c = 22 + 4 * j ∧ k = 2) → wA' c k = wA c k) (hAx : wA' (22 + 4 * j) 2 = x) (hB : ∀ c k, ¬ (c = 13 ∧ k = j) → ¬ (c = 1 ∧ k = 0) → wB' c k = wB c k) (hBx : wB' 13 j = x) (h : LowR nF m d now wA wB) : LowR nF m d now wA' wB' := by
  obtain ⟨i1, i2, i3, i4, i5, i6⟩ := h
  have hm : m ≤ 12 := i3.1.2.2.1
  have aC : ∀ c, c ≠ 22 + 4 * j → wA' c = wA c := fun c h => funext fun k => hA c k (fun z => h z.1)
  have bC : ∀ c, c ≠ 13 → c ≠ 1 → wB' c = wB c := fun c h1 h2 => funext fun k => hB c k (fun z => h1 z.1) (fun z => h2 z.1)
  have bf : ∀ k, k ≠ 0 → wB' 1 k = wB 1 k := fun k h => hB 1 k (fun z => by omega) (fun z => h z.2)
  have hRB : ∀ b, b % 4 = 2 → RB wA' b = RB wA b := fun b hb => flag_RB hb hA
  have hRBB : ∀ j, RBB wB' j = RBB wB j := fun j => RBB_congr (fun c a b => bC c (by omega) (by omega)) j
  have hSA : SA wA' = SA wA := SA_c5 (fun c a b => aC c (by omega))
  have hE : ∀ j, RE (RBB wB j) (RBB wB' j) := fun j => by rw [hRBB]; exact RE.refl
  have h16 : ∀ j, wB' 16 j = wB 16 j := fun j => by rw [bC 16 (by omega) (by omega)]
  have c35 : ∀ c, 3 ≤ c → c ≤ 5 → wB' c = wB c := fun c h1 h2 => bC c (by omega) (by omega)
  have dn : ∀ b, b % 4 = 2 → DnA wA b → DnA wA' b := fun b h1 h => by
    unfold DnA
    rw [hRB b h1, hSA, hA b 0 (by omega)]
    exact h
  refine ⟨⟨WfS_congr (fun c a b k => by rw [aC c (by omega)]) i1.1, ?_⟩, ?_, ?_, ?_, ?_, by rw [aC 1 (by omega), bf 1 (by omega)]; exact i6⟩
  · rw [bC 3 (by omega) (by omega), bC 4 (by omega) (by omega), bC 5 (by omega) (by omega), bC 2 (by omega) (by omega), aC 3 (by omega), aC 4 (by omega), aC 5 (by omega)]
    exact i1.2
  · exact IFac_congr (aC 3 (by omega)) (fun c _ _ => aC c (by omega)) (bC 3 (by omega) (by omega)) (fun c _ _ => bC c (by omega) (by omega)) (bf 7 (by omega)) i2
  · obtain ⟨r1, r2, r3⟩ := i3
    refine ⟨?_, ?_, fun i hi => ?_⟩
    · obtain ⟨p1, p2, p3, p4, p5⟩ := r1
      refine ⟨WfS_congr (fun c a b k => by rw [aC c (by omega)]) p1, by rw [aC 14 (by omega)]; exact p2, p3, by rw [aC 19 (by omega)]; exact p4, fun i hi => ?_⟩
      unfold RuA
      rw [hRB _ (by omega), hSA, hA _ 0 (by omega)]
      exact p5 i hi
    · obtain ⟨p1, p2, p3⟩ := r2
      exact ⟨by rw [bf 14 (by omega)]; exact p1, p2, fun i hi => ⟨RuB_E (hE i) (h16 i) c35 (p3 i hi).1, Rng_E (hE i) (p3 i hi).2⟩⟩
    · obtain ⟨y1, y2, y3, y4⟩ := r3 i hi
      rw [hRB _ (by omega), hRBB]
      by_cases q : i = j
      · subst q
        rw [hAx, hBx]
        exact ⟨y1, rfl, hx, y4⟩
      · rw [hA _ 2 (by omega), hB 13 i (by omega) (by omega)]
        exact ⟨y1, y2, y3, y4⟩
  · obtain ⟨d1, d2, d3, d4, d5⟩ := i4
    refine ⟨by rw [aC 14 (by omega)]; exact d1, by rw [bf 15 (by omega)]; exact d2, d3, by rw [aC 20 (by omega)]; exact d4, fun i hi => ?_⟩
    obtain ⟨e1, e2, e3, e4, e5⟩ := d5 i hi
    refine ⟨dn _ (by omega) e1, RuBL_E (hE _).T (h16 _) c35 e2, ?_⟩
    rw [hRB _ (by omega), hRBB]
    exact ⟨e3, e4, e5⟩
  · obtain ⟨e1, e2, e3, e4, e5, e6⟩ := i5
    refine ⟨dn _ (by omega) e1, RuBL_E (hE _).T (h16 _) c35 e2, ?_⟩
    rw [hRB 94 (by omega), hRBB, bC 14 (by omega) (by omega), hA 94 1 (by omega), aC 3 (by omega)]
    exact ⟨e3, e4, e5, e6⟩
theorem left_n {w : World} {m : Nat} (hn : w 14 4 = (m : Int)) (h12 : m ≤ 12) (h19 : ∀ j : Nat, j < 12 → w 19 j = ((22 + 4 * j : Nat) : Int)) : f_Pr_rulesLeft w = some ((cnt (fun j => decide (w (22 + 4 * j) 2 = 0)) m : Nat) : Int) := by
  have hkd : ∀ j, j < 12 → kdA (22 + 4 * j) = 1 := by decide +kernel
  unfold f_Pr_rulesLeft f_Pr_rulesLeft_4
  refine lp_go (F := fun z : (Int × Int) => f_Pr_rulesLeft_4B w z.1 z.2) (fun k => (((cnt (fun j => decide (w (22 + 4 * j) 2 = 0)) k : Nat) : Int), (k : Int))) _ m (fun k hk => ?_) ?_
  · show f_Pr_rulesLeft_4B w ((cnt (fun j => decide (w (22 + 4 * j) 2 = 0)) k : Nat) : Int) (k : Int) = some (Sum.inl (((cnt (fun j => decide (w (22 + 4 * j) 2 = 0)) (k + 1) : Nat) : Int), ((k + 1 : Nat) : Int)))
    have hc := cnt_le (P := fun j => decide (w (22 + 4 * j) 2 = 0)) k
    have es : cnt (fun j => decide (w (22 + 4 * j) 2 = 0)) (k + 1) = cnt (fun j => decide (w (22 + 4 * j) 2 = 0)) k + (if decide (w (22 + 4 * k) 2 = 0) = true then 1 else 0) := rfl
    unfold f_Pr_rulesLeft_4B f_Pr_rulesLeft_29
    rw [hn, if_neg (by omega), rule_n (by omega) (h19 k (by omega)), bnd_s, gd_t (hkd k (by omega)), es, bl_s, bl_s, bl_s, bl_s, wr_of (x := (k : Int) + 1) ⟨by omega, by omega⟩]
    by_cases q : w (22 + 4 * k) 2 = 0
    · rw [if_pos q, if_pos (by simpa using q), wr_of (x := ((cnt (fun j => decide (w (22 + 4 * j) 2 = 0)) k : Nat) : Int) + 1) ⟨by omega, by omega⟩]
      rfl
    · rw [if_neg q, if_neg (by simpa using q), wr_of (x := ((cnt (fun j => decide (w (22 + 4 * j) 2 = 0)) k : Nat) : Int) + 0) ⟨by omega, by omega⟩]
      rfl
  · show f_Pr_rulesLeft_4B w ((cnt (fun j => decide (w (22 + 4 * j) 2 = 0)) m : Nat) : Int) (m : Int) = _
    unfold f_Pr_rulesLeft_4B
    rw [hn, if_pos (Int.le_refl _)]
theorem leftB_n {w : World} {m : Nat} (hn : w 1 14 = (m : Int)) (h12 : m ≤ 12) : f_Re_remove_92 w 0 0 = some (w, ((cnt (fun j => decide (w 13 j = 0)) m : Nat) : Int)) := by
  unfold f_Re_remove_92
  refine lp_go (F := fun z : (Int × Int) => f_Re_remove_92B w z.1 z.2) (fun k => (((cnt (fun j => decide (w 13 j = 0)) k : Nat) : Int), (k : Int))) _ m (fun k hk => ?_) ?_
  · show f_Re_remove_92B w ((cnt (fun j => decide (w 13 j = 0)) k : Nat) : Int) (k : Int) = some (Sum.inl (((cnt (fun j => decide (w 13 j = 0)) (k + 1) : Nat) : Int), ((k + 1 : Nat) : Int)))
    have hc := cnt_le (P := fun j => decide (w 13 j = 0)) k
    have es : cnt (fun j => decide (w 13 j = 0)) (k + 1) = cnt (fun j => decide (w 13 j = 0)) k + (if decide (w 13 k = 0) = true then 1 else 0) := rfl
    unfold f_Re_remove_92B f_Re_remove_117
    rw [hn, if_neg (by omega), gd_t ⟨by omega, by omega⟩, Int.toNat_natCast, es, bl_s, bl_s, bl_s, bl_s, wr_of (x := (k : Int) + 1) ⟨by omega, by omega⟩]
    by_cases q : w 13 k = 0
    · rw [if_pos q, if_pos (by simpa using q), wr_of (x := ((cnt (fun j => decide (w 13 j = 0)) k : Nat) : Int) + 1) ⟨by omega, by omega⟩]
      rfl
    · rw [if_neg q, if_neg (by simpa using q), wr_of (x := ((cnt (fun j => decide (w 13 j = 0)) k : Nat) : Int) + 0) ⟨by omega, by omega⟩]
      rfl
  · show f_Re_remove_92B w ((cnt (fun j => decide (w 13 j = 0)) m : Nat) : Int) (m : Int) = _
    unfold f_Re_remove_92B
    rw [hn, if_pos (Int.le_refl _)]
theorem st_remove : St_remove II := by
  intro wA wB hII x1 _
  obtain ⟨nF, m, d, now, top, L, g, hI⟩ := id hII
  obtain ⟨i1, i2, i3, i4, i5, i6, i7, i8, i9, i10, i11⟩ := id hI
  have hm : m ≤ 12 := i3.1.2.2.1
  have nA : wA 14 4 = (m : Int) := i3.1.2.1
  have nB : wB 1 14 = (m : Int) := i3.2.1.1
  have hno : ∀ x : Int, ¬ x = 0 → f_Re_remove_35 wB x1 x = some (up wB 1 0 x, 0) := fun x hx => by
    unfold f_Re_remove_35
    rw [refused_n, bnd_s]
    show (if (if x = 0 then (0 : Int) else 1) = 0 then _ else some (up wB 1 0 x, 0)) = _
    rw [if_neg hx]
    exact if_neg z10
  have ewm : wr ((m : Int) - 1) = (m : Int) - 1 := wr_of (x := (m : Int) - 1) ⟨by omega, by omega⟩
  by_cases q1 : 0 ≤ x1 ∧ x1 ≤ (m : Int) - 1
  · obtain ⟨j, rfl⟩ : ∃ j : Nat, x1 = (j : Int) := ⟨x1.toNat, by omega⟩
    have hj : j < m := by omega
    have hkd : kdA (22 + 4 * j) = 1 := by
      have : ∀ j, j < 12 → kdA (22 + 4 * j) = 1 := by decide +kernel
      exact this j (by omega)
    obtain ⟨k1, k2, k3, k4⟩ := i3.2.2 j hj
    have hrul := rule_n (w := wA) (j := j) (by omega) (i3.1.2.2.2.1 j (by omega))
    have hA0 : f_Dm_remove wA (j : Int) = if wA (22 + 4 * j) 2 = 0 then (bl (up wA (22 + 4 * j) 2 1) fun w13 => bnd (f_Pr_stratify w13 ) fun v15 => if v15.2 = 0 then (f_Dm_remove_72 v15.1 (22 + 4 * j)) else (bnd (f_Dm_renew v15.1 0 3) fun v20 => if v20.2 = 0 then (f_Dm_remove_72 v20.1 (22 + 4 * j)) else (bnd (f_Pr_rulesLeft v20.1 ) fun v25 => some (v20.1, 0, v25)))) else some (wA, 3, 0) := by
      unfold f_Dm_remove f_Pr_hasRule
      rw [if_neg (by omega), nA, if_neg (by omega), bnd_s, if_neg z10, hrul, bnd_s, gd_t hkd]
    have hB0 : f_Re_remove wB (j : Int) = if wA (22 + 4 * j) 2 = 0 then f_Re_remove_35 wB (j : Int) 0 else f_Re_remove_35 wB (j : Int) 2 := by
      unfold f_Re_remove
      rw [nB, ewm, inB_n, bnd_s, if_pos q1, if_neg z10, gd_t ⟨by omega, by omega⟩, Int.toNat_natCast, k2]
    by_cases q0 : wA (22 + 4 * j) 2 = 0
    · obtain ⟨wA1, hw1⟩ : ∃ w, w = up wA (22 + 4 * j) 2 1 := ⟨_, rfl⟩
      obtain ⟨wB1, hu1⟩ : ∃ w, w = up (up wB 1 0 0) 13 j 1 := ⟨_, rfl⟩
      have aO : ∀ c k, ¬ (c = 22 + 4 * j ∧ k = 2) → wA1 c k = wA c k := fun c k h => by rw [hw1]; unfold up; rw [if_neg h]
      have aC : ∀ c, c ≠ 22 + 4 * j → wA1 c = wA c := fun c h => funext fun k => aO c k (fun z => h z.1)
      have bO : ∀ c k, ¬ (c = 13 ∧ k = j) → ¬ (c = 1 ∧ k = 0) → wB1 c k = wB c k := fun c k h1 h2 => by rw [hu1]; unfold up; rw [if_neg h1, if_neg h2]
      have bC : ∀ c, c ≠ 13 → c ≠ 1 → wB1 c = wB c := fun c h1 h2 => funext fun k => bO c k (fun z => h1 z.1) (fun z => h2 z.1)
      have ax : wA1 (22 + 4 * j) 2 = 1 := by rw [hw1]; simp [up]
      have bx : wB1 13 j = 1 := by rw [hu1]; simp [up]
      have b10 : wB1 1 0 = 0 := by rw [hu1]; simp [up]
      have hL := hI.low
      have hR1 : LowR nF m d now wA1 wB1 := LowR_flag hj (Or.inr rfl) aO ax bO bx hL.R
      obtain ⟨ws, v, L1, top1, us, s1, s2, s3, s4, s5, s6⟩ := both_strata hR1
      have hsub : SolL (SA wA1) (RrA m wA1) (lvf L) := by
        have hSA : SA wA1 = SA wA := SA_c5 (fun c a b => aC c (by omega))
        rw [hSA]
        rintro R ⟨i, hi, hg, rfl⟩
        have hg : wA1 (22 + 4 * i) 2 = 0 := hg
        have hne : i ≠ j := fun e => by rw [e, ax] at hg; exact absurd hg (by decide)
        have e : FA wA1 i = FA wA i := flag_RB (by omega) aO
        rw [e]
        exact i7.2.2.2.1 _ ⟨i, hi, by show wA (22 + 4 * i) 2 = 0; rw [← aO _ 2 (by omega)]; exact hg, rfl⟩
      obtain ⟨hv, -⟩ := s5.one hsub (fun q hq => by have := i7.1.2.2.1 q hq; have := i7.2.2.1; omega)
      subst hv
      have hL1 := s6 rfl
      have sC : ∀ c, c ≠ 21 → c ≠ 14 → ws c = wA1 c := fun c h1 h2 => s3.cell h1 h2
      have hrs : IRef g ws := ⟨i8.1, i8.2.1, by rw [sC 108 (by omega) (by omega), sC 109 (by omega) (by omega), aC 108 (by omega), aC 109 (by omega)]; exact i8.2.2⟩
      obtain ⟨w', v, u', p1, p2, p3, p4, p5, p6, p7⟩ := both_new (a := 0) (b := 3) hL1 hrs (by rw [sC 104 (by omega) (by omega), aC 104 (by omega)]; exact i10) (VB_congr (by rw [s4 23 (by omega), bC 23 (by omega) (by omega)]) (by rw [s4 24 (by omega), bC 24 (by omega) (by omega)]) i11) (by omega) (by omega) (fun h h4 hn => absurd ⟨by omega, by omega⟩ hn)
      have p1 : f_Dm_renew ws 0 3 = some (w', v) := p1
      have hArun : f_Dm_remove wA (j : Int) = if v = 0 then (f_Dm_remove_72 w' (22 + 4 * j)) else (bnd (f_Pr_rulesLeft w') fun v25 => some (w', 0, v25)) := by
        rw [hA0, if_pos q0, bl_s, ← hw1, s1, bnd_s, if_neg z10, p1, bnd_s]
      have hBrun : f_Re_remove wB (j : Int) = if v = 0 then (bl (up u' 13 j 0) fun w17 => bnd (f_Re_layer w17 ) fun v19 => bnd (f_Re_buildAll v19.1 ) fun v22 => bnd (f_Re_refused v22.1 2) fun v25 => some (v25.1, 0)) else f_Re_remove_92 u' 0 0 := by
        rw [hB0, if_pos q0]
        unfold f_Re_remove_35
        rw [refused_n, bnd_s]
        show (if (if (0 : Int) = 0 then (0 : Int) else 1) = 0 then _ else _) = _
        rw [if_pos (if_pos rfl), gd_t ⟨by omega, by omega⟩, bl_s, Int.toNat_natCast]
        show bnd (f_Re_layer (up (up wB 1 0 0) 13 j 1)) _ = _
        rw [← hu1, s2, bnd_s, p2, bnd_s, gd_t ⟨by omega, by omega⟩]
      have u10 : u' 1 0 = 0 := by rw [p3.f (by omega) (by omega), s4 1 (by omega)]; exact b10
      rcases p7 with ⟨hv1, g', hInv⟩ | ⟨hv0, hF1⟩
      · have j3 := hInv.2.2.1
        have hval : ((cnt (fun i => decide (w' (22 + 4 * i) 2 = 0)) m : Nat) : Int) = ((cnt (fun i => decide (u' 13 i = 0)) m : Nat) : Int) := by
          rw [cnt_congr (P := fun i => decide (w' (22 + 4 * i) 2 = 0)) (Q := fun i => decide (u' 13 i = 0)) (fun i hi => by show decide (w' (22 + 4 * i) 2 = 0) = decide (u' 13 i = 0); rw [(j3.2.2 i hi).2.1])]
        refine ⟨(w', 0, ((cnt (fun i => decide (w' (22 + 4 * i) 2 = 0)) m : Nat) : Int)), (u', ((cnt (fun i => decide (w' (22 + 4 * i) 2 = 0)) m : Nat) : Int)), ?_, ?_, ?_, Or.inl rfl, fun _ => rfl, nF, m, d, now, top1, L1, g', hInv⟩
        · rw [hArun, hv1, if_neg z10, left_n j3.1.2.1 hm j3.1.2.2.2.1, bnd_s]
        · rw [hBrun, hv1, if_neg z10, leftB_n j3.2.1.1 hm, hval]
        · unfold f_Re_thrown
          show some (u' 1 0) = _
          rw [u10]
          rfl
      · obtain ⟨wA2, hw2⟩ : ∃ w, w = up w' (22 + 4 * j) 2 0 := ⟨_, rfl⟩
        obtain ⟨wB2, hu2⟩ : ∃ w, w = up u' 13 j 0 := ⟨_, rfl⟩
        have hLw : Low nF m d now top1 L1 w' u' := Low_congr (fun c hc => p6 c (by omega)) (fun c h1 h2 => p3.cell (by omega) (by omega)) (fun k hk => p3.f (by omega) (by omega)) hL1
        have a2O : ∀ c k, ¬ (c = 22 + 4 * j ∧ k = 2) → wA2 c k = w' c k := fun c k h => by rw [hw2]; unfold up; rw [if_neg h]
        have a2C : ∀ c, c ≠ 22 + 4 * j → wA2 c = w' c := fun c h => funext fun k => a2O c k (fun z => h z.1)
        have a2x : wA2 (22 + 4 * j) 2 = 0 := by rw [hw2]; simp [up]
        have b2O : ∀ c k, ¬ (c = 13 ∧ k = j) → ¬ (c = 1 ∧ k = 0) → wB2 c k = u' c k := fun c k h1 _ => by rw [hu2]; unfold up; rw [if_neg h1]
        have b2x : wB2 13 j = 0 := by rw [hu2]; simp [up]
        have hR2 : LowR nF m d now wA2 wB2 := LowR_flag hj (Or.inl rfl) a2O a2x b2O b2x hLw.R
        have all : ∀ c, c < 98 → c ≠ 21 → c ≠ 14 → wA2 c = wA c := fun c h1 h2 h3 => by
          funext k
          by_cases q : c = 22 + 4 * j ∧ k = 2
          · obtain ⟨rfl, rfl⟩ := q
            rw [a2x, q0]
          · rw [a2O c k q, p6 c (by omega), sC c h2 h3, aO c k q]
        have hRr2 : RrA m wA2 = RrA m wA := RrA_22 hm (fun c h1 h2 => all c h2 (by omega) (by omega))
        have hr2 : IRef g wA2 := by
          have := hF1.ref hrs
          exact ⟨this.1, this.2.1, by rw [a2C 108 (by omega), a2C 109 (by omega)]; exact this.2.2⟩
        have b2C : ∀ c, c ≠ 13 → wB2 c = u' c := fun c h => by rw [hu2]; funext k; simp [up, h]
        obtain ⟨w3, v3, u3, u4, top3, L3, t1, t2, t3, t4⟩ := both_again hL hR2 hRr2 (SA_c5 (fun c a b => all c (by omega) (by omega) (by omega))) hr2 (by rw [a2C 104 (by omega)]; exact p5) (VB_congr (b2C 23 (by omega)) (b2C 24 (by omega)) p4) (fun h h4 => by
          have hg := i8.rng (i := h) (by omega)
          refine HAc_g (nF' := nF) (m' := m) (w' := wA2) ((i9 h h4).A.1) (fun k h1 h2 => all k (by omega) (by omega) (by omega)) (fun k h1 h2 => ?_) (fun r' k' => ?_) (by rw [hRr2]; exact RS.refl) (Or.inr ⟨?_, ?_, ?_⟩)
          · rw [a2C k (by omega), hF1.2.1 h h4 k h1 h2, sC k (by omega) (by omega), aC k (by omega)]
          · unfold FFA FaC
            rw [all 8 (by omega) (by omega) (by omega), all 9 (by omega) (by omega) (by omega), all 11 (by omega) (by omega) (by omega), all 12 (by omega) (by omega) (by omega), all 13 (by omega) (by omega) (by omega)]
          · rw [a2C 150 (by omega), hF1.2.2.2 150 (by omega), sC 150 (by omega) (by omega), aC 150 (by omega)]
          · rw [a2C 151 (by omega), hF1.2.2.2 151 (by omega), sC 151 (by omega) (by omega), aC 151 (by omega)]
          · unfold FCA FaC
            rw [all 8 (by omega) (by omega) (by omega), all 9 (by omega) (by omega) (by omega), all 10 (by omega) (by omega) (by omega), all 11 (by omega) (by omega) (by omega), all 12 (by omega) (by omega) (by omega), all 13 (by omega) (by omega) (by omega)])
        refine ⟨(w3, 3, 0), (up u4 1 0 2, 0), ?_, ?_, thrown_n, Or.inr (Or.inr rfl), fun e => n30 e, nF, m, d, now, top3, L3, g, Inv_up10 t4⟩
        · rw [hArun, hv0, if_pos rfl]
          unfold f_Dm_remove_72
          rw [bl_s, ← hw2, t1, bnd_s]
        · rw [hBrun, hv0, if_pos rfl, bl_s, ← hu2, t2, bnd_s, t3, bnd_s, refused_n, bnd_s]
    · exact no_v (e := 3) (x := 2) (fun e => e = 0 ∨ e = 1 ∨ e = 3) hII (by decide) (by rw [hA0, if_neg q0]) (by rw [hB0, if_neg q0, hno 2 z20]) rfl (Or.inr (Or.inr rfl))
  · refine no_v (e := 1) (x := 1) (fun e => e = 0 ∨ e = 1 ∨ e = 3) hII (by decide) ?_ ?_ rfl (Or.inr (Or.inl rfl))
    · unfold f_Dm_remove f_Pr_hasRule
      by_cases q : x1 < 0
      · rw [if_pos q, bnd_s, if_pos rfl]
      · rw [if_neg q, nA, if_pos (by omega), bnd_s, if_pos rfl]
    · unfold f_Re_remove
      rw [nB, ewm, inB_n, bnd_s, if_neg q1, if_pos rfl, hno 1 z10]
