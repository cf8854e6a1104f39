/-! THE REFERENCE'S STRATA -/
def FrS (w w' : World) : Prop := ∀ c, c ≠ 6 → w' c = w c
theorem FrS.refl {w : World} : FrS w w := fun _ _ => rfl
theorem FrS.trans {w w' w'' : World} (h : FrS w w') (h' : FrS w' w'') : FrS w w'' := fun c a => (h' c a).trans (h c a)
theorem FrS.SA {w w' : World} (h : FrS w w') : SA w' = SA w := SA_c5 (fun c a b => h c (by omega))
theorem FrS.R {w w' : World} (h : FrS w w') (ru : Nat) : RBB w' ru = RBB w ru := RBB_congr (fun c a b => h c (by omega)) ru
theorem FrS.ru {w w' : World} (h : FrS w w') {ru : Nat} (hR : RuB w ru) : RuB w' ru := by
  obtain ⟨h1, h2, h3, h4⟩ := hR
  exact ⟨h1, WfT_congr (fun c a b => h c (by omega)) h2, by rw [h.R, h 16 (by decide)]; exact h3, by rw [h.SA, h.R]; exact h4⟩
def LB (w : World) (L : Nat → Nat) : Prop := ∀ q, q < 10 → w 6 q = (L q : Int)
def m10 (L : Nat → Nat) : Nat := sumN (fun q => min (L q) 10) 10
theorem m10_le {L L' : Nat → Nat} (h : ∀ q, L q ≤ L' q) : m10 L ≤ m10 L' := sumN_mono (fun i => by have := h i; omega) 10
theorem m10_lt {L L' : Nat → Nat} (h : ∀ q, L q ≤ L' q) {q : Nat} (hq : q < 10) (hlt : L q < L' q) (h10 : L' q < 10) : m10 L < m10 L' := sumN_lt (fun i => by have := h i; omega) 10 q hq (by omega)
/-- how a round of the reference stands -/
def JL (L0 L : Nat → Nat) (x1 x2 : Int) : Prop := (∀ q, L0 q ≤ L q) ∧ ((x1 = 0 ∧ L = L0 ∧ x2 = 1) ∨ (x1 = 1 ∧ L ≠ L0 ∧ ((x2 = 1 ∧ m10 L0 < m10 L) ∨ (x2 = 0 ∧ ∃ q, q < 10 ∧ 10 ≤ L q))))
theorem layer_lit {w : World} {ru p : Nat} {x1 x2 : Int} {L0 L : Nat → Nat} {b : Nat} (hR : RuB w ru) (hru : ru < 12) (hg : Rng (RBB w ru)) (hp : p < (RBB w ru).ln) (hL : LB w L) (hb : ∀ q, q < 10 → L q ≤ b) (hb2 : b < 1000000) (hJ : JL L0 L x1 x2) (hrm : w 13 ru = 0) :
    ∃ w' x1' x2', f_Re_layer_50B w x1 x2 (ru : Int) ((5 * ru + p : Nat) : Int) = some (Sum.inl (w', x1', x2', ((5 * ru + (p + 1) : Nat) : Int))) ∧ FrS w w' ∧ LB w' (stp (SA w) (RBB w ru) L p) ∧ JL L0 (stp (SA w) (RBB w ru) L p) x1' x2' := by
  obtain ⟨h19, hT, h16, hWf⟩ := id hR
  obtain ⟨⟨r, hr10, hr⟩, hsjR⟩ := hg
  have h5 := hWf.1
  have hp5 : p < 5 := Nat.lt_of_lt_of_le hp h5
  have e14 : w 14 ru = (r : Int) := hr
  have e17 : w 17 (5 * ru + p) = (RBB w ru).fm p := rfl
  have hfm := hWf.2.1 p hp
  have hend : wr ((wr (5 * (ru : Int))) + w 16 ru) = ((5 * ru + (RBB w ru).ln : Nat) : Int) := by rw [h16, idx5 (by omega) (by omega)]
  have out : ∀ (w : World) (x1 x2 : Int), f_Re_layer_218 w x1 x2 (ru : Int) ((5 * ru + p : Nat) : Int) = some (Sum.inl (w, x1, x2, ((5 * ru + (p + 1) : Nat) : Int))) := fun w x1 x2 => by
    unfold f_Re_layer_218
    rw [bl_s, wr_of (x := ((5 * ru + p : Nat) : Int) + 1) ⟨by omega, by omega⟩]
    rfl
  have etg : (RBB w ru).tg.toNat = r := by rw [hr, Int.toNat_natCast]
  -- a raise to v
  have s172 : ∀ v : Nat, v = lsv (SA w) (RBB w ru) L p → v ≤ 2000000 → ∃ w' x1' x2', f_Re_layer_172 w x1 x2 (ru : Int) ((5 * ru + p : Nat) : Int) (v : Int) = some (Sum.inl (w', x1', x2', ((5 * ru + (p + 1) : Nat) : Int))) ∧ FrS w w' ∧ LB w' (stp (SA w) (RBB w ru) L p) ∧ JL L0 (stp (SA w) (RBB w ru) L p) x1' x2' := fun v hv hv2 => by
    unfold f_Re_layer_172 f_Re_layer_217
    rw [gd_t ⟨by omega, by omega⟩, Int.toNat_natCast, e14, gd_t ⟨by omega, by omega⟩, Int.toNat_natCast, hL r hr10]
    by_cases q : v ≤ L r
    · rw [if_pos (by omega), out]
      have hst : stp (SA w) (RBB w ru) L p = L := stp_eq.mpr (by rw [← hv, etg]; exact q)
      exact ⟨w, x1, x2, rfl, FrS.refl, by rw [hst]; exact hL, by rw [hst]; exact hJ⟩
    · rw [if_neg (by omega), gd_t ⟨by omega, by omega⟩, gd_t ⟨by omega, by omega⟩, bl_s, out, out]
      have hst : stp (SA w) (RBB w ru) L p = upn L r v := by
        unfold stp
        rw [← hv, etg, if_pos (by omega)]
      have hle : ∀ q, L q ≤ upn L r v q := fun q' => by rw [← hst]; exact stp_le q'
      have hF : FrS w (up w 6 r (v : Int)) := fun c hc => by funext k; simp [up, hc]
      have hLB : LB (up w 6 r (v : Int)) (upn L r v) := fun q' hq' => by
        by_cases e : q' = r
        · subst e; rw [upn_eq]; simp [up]
        · rw [upn_ne e, ← hL q' hq']; simp [up, e]
      have hne : upn L r v ≠ L0 := fun e => by
        have h1 := hJ.1 r
        have h2 := congrFun e r
        rw [upn_eq] at h2
        omega
      rw [hst]
      by_cases v10 : 10 ≤ v
      · rw [if_pos (by omega)]
        exact ⟨_, 1, 0, rfl, hF, hLB, fun q' => Nat.le_trans (hJ.1 q') (hle q'), Or.inr ⟨rfl, hne, Or.inr ⟨rfl, r, hr10, by rw [upn_eq]; exact v10⟩⟩⟩
      · rw [if_neg (by omega)]
        refine ⟨_, 1, 1, rfl, hF, hLB, fun q' => Nat.le_trans (hJ.1 q') (hle q'), Or.inr ⟨rfl, hne, Or.inl ⟨rfl, ?_⟩⟩⟩
        have h1 := m10_le hJ.1
        have h2 := m10_lt hle hr10 (by rw [upn_eq]; omega) (by rw [upn_eq]; omega)
        omega
  unfold f_Re_layer_50B
  rw [gd_t ⟨by omega, by omega⟩, Int.toNat_natCast, if_pos hrm, gd_t ⟨by omega, by omega⟩, hend, if_neg (by omega), gd_t ⟨by omega, by omega⟩, Int.toNat_natCast, e17]
  by_cases hf : (RBB w ru).fm p ≤ 1
  · rw [if_neg (by omega)]
    obtain ⟨s, hs10, hs⟩ := hsjR p hp hf
    have e18 : w 18 (5 * ru + p) = (s : Int) := hs
    have hk := (hT s hs10).2.1
    have eki : (SA w).ki ((RBB w ru).sj p) = (w 4 s).toNat := by rw [hs, SA_ki hs10]
    have hbs := hb s hs10
    have hav := av_le (D := SA w) (R := RBB w ru) (p := p)
    have hlsv : L s + av (SA w) (RBB w ru) p = lsv (SA w) (RBB w ru) L p := by
      unfold lsv
      rw [if_pos hf, hs, Int.toNat_natCast]
    have s138 : ∀ a : Nat, a = av (SA w) (RBB w ru) p → ∃ w' x1' x2', f_Re_layer_138 w x1 x2 (ru : Int) ((5 * ru + p : Nat) : Int) 1 (a : Int) = some (Sum.inl (w', x1', x2', ((5 * ru + (p + 1) : Nat) : Int))) ∧ FrS w w' ∧ LB w' (stp (SA w) (RBB w ru) L p) ∧ JL L0 (stp (SA w) (RBB w ru) L p) x1' x2' := fun a ha => by
      have := s172 (L s + a) (by rw [ha]; exact hlsv) (by omega)
      unfold f_Re_layer_138 f_Re_layer_167
      rw [if_neg (by decide), gd_t ⟨by omega, by omega⟩, Int.toNat_natCast, e18, gd_t ⟨by omega, by omega⟩, Int.toNat_natCast, hL s hs10]
      by_cases q : a = 0
      · rw [if_pos (by omega), wr_of (x := (L s : Int) + 0) ⟨by omega, by omega⟩]
        rw [q] at this
        exact this
      · have a1 : a = 1 := by omega
        rw [if_neg (by omega), wr_of (x := (L s : Int) + 1) ⟨by omega, by omega⟩]
        rw [a1] at this
        exact this
    unfold f_Re_layer_90 f_Re_layer_133 f_Re_layer_137
    rw [if_neg (by decide), gd_t ⟨by omega, by omega⟩, Int.toNat_natCast, e17]
    by_cases f1 : (RBB w ru).fm p = 1
    · rw [if_pos f1]
      exact s138 1 (av_1 (Or.inl f1)).symm
    · have f0 : (RBB w ru).fm p = 0 := by omega
      rw [if_neg f1, gd_t ⟨by omega, by omega⟩, e18, gd_t ⟨by omega, by omega⟩, Int.toNat_natCast]
      by_cases k0 : w 4 s = 0
      · rw [if_pos k0]
        exact s138 0 (av_0 (fun z => by rcases z with z | z; omega; exact z.2.1 (by rw [eki]; omega))).symm
      · rw [if_neg k0]
        obtain ⟨v, hv, hv2⟩ := growsB_n hR hr hr10 hp f0
        rw [hv, bnd_s]
        rcases hv2 with ⟨rfl, hgr⟩ | ⟨rfl, hgr⟩
        · rw [if_neg (by decide)]
          exact s138 0 (av_0 (fun z => by rcases z with z | z; omega; exact z.2.2 hgr)).symm
        · rw [if_pos rfl]
          exact s138 1 (av_1 (Or.inr ⟨f0, by rw [eki]; omega, hgr⟩)).symm
  · rw [if_pos (by omega)]
    unfold f_Re_layer_90 f_Re_layer_137 f_Re_layer_138
    rw [if_pos rfl, if_pos rfl]
    exact s172 0 (by unfold lsv; rw [if_neg hf]) (by omega)
/-- the reference's program as strata are found of it -/
def PgB (w : World) (m : Nat) : Prop := w 1 14 = (m : Int) ∧ m ≤ 12 ∧ ∀ j, j < m → RuB w j ∧ Rng (RBB w j)
def FB (w : World) : Nat → RU := fun j => RBB w j
def GB (w : World) : Nat → Prop := fun j => w 13 j = 0
theorem PgB.fr {w w' : World} {m : Nat} (hF : FrS w w') (h : PgB w m) : PgB w' m := by
  obtain ⟨h1, h2, h3⟩ := h
  exact ⟨by rw [hF 1 (by decide)]; exact h1, h2, fun j hj => ⟨hF.ru (h3 j hj).1, by rw [hF.R]; exact (h3 j hj).2⟩⟩
theorem FrS_FB {w w' : World} (h : FrS w w') : FB w' = FB w := funext fun j => h.R j
theorem FrS_GB {w w' : World} (h : FrS w w') : GB w' = GB w := funext fun j => by unfold GB; rw [h 13 (by decide)]
theorem layer_50 {w : World} {ru b : Nat} {x1 x2 : Int} {L0 L : Nat → Nat} (hR : RuB w ru) (hru : ru < 12) (hg : Rng (RBB w ru)) (hL : LB w L) (hb : ∀ q, q < 10 → L q ≤ b) (hb2 : b < 900000) (hJ : JL L0 L x1 x2) :
    ∃ w' x1' x2', f_Re_layer_50 w x1 x2 (ru : Int) ((5 * ru : Nat) : Int) = some (Sum.inl (w', x1', x2', ((ru + 1 : Nat) : Int))) ∧ FrS w w' ∧ LB w' (if w 13 ru = 0 then lits (SA w) (RBB w ru) L (RBB w ru).ln else L) ∧ JL L0 (if w 13 ru = 0 then lits (SA w) (RBB w ru) L (RBB w ru).ln else L) x1' x2' := by
  obtain ⟨h19, hT, h16, hWf⟩ := id hR
  have h5 := hWf.1
  have out : ∀ (w : World) (x1 x2 : Int), f_Re_layer_224 w x1 x2 (ru : Int) = some (Sum.inl (w, x1, x2, ((ru + 1 : Nat) : Int))) := fun w x1 x2 => by
    unfold f_Re_layer_224
    rw [bl_s, wr_of (x := (ru : Int) + 1) ⟨by omega, by omega⟩]
    rfl
  by_cases hrm : w 13 ru = 0
  · rw [if_pos hrm]
    have loop : ∀ (j k : Nat) (w1 : World) (y1 y2 : Int), k + j = (RBB w ru).ln → FrS w w1 → LB w1 (lits (SA w) (RBB w ru) L k) → JL L0 (lits (SA w) (RBB w ru) L k) y1 y2 → ∃ w' x1' x2', f_Re_layer_50 w1 y1 y2 (ru : Int) ((5 * ru + k : Nat) : Int) = some (Sum.inl (w', x1', x2', ((ru + 1 : Nat) : Int))) ∧ FrS w w' ∧ LB w' (lits (SA w) (RBB w ru) L (RBB w ru).ln) ∧ JL L0 (lits (SA w) (RBB w ru) L (RBB w ru).ln) x1' x2' := by
      intro j
      induction j with
      | zero =>
        intro k w1 y1 y2 hk hF hL1 hJ1
        have e : k = (RBB w ru).ln := by omega
        rw [← e]
        refine ⟨w1, y1, y2, ?_, hF, hL1, hJ1⟩
        unfold f_Re_layer_50
        refine lp_out ?_
        show f_Re_layer_50B w1 y1 y2 (ru : Int) ((5 * ru + k : Nat) : Int) = _
        unfold f_Re_layer_50B
        rw [hF 13 (by decide), hF 16 (by decide), gd_t ⟨by omega, by omega⟩, Int.toNat_natCast, if_pos hrm, gd_t ⟨by omega, by omega⟩, h16, idx5 (by omega) (by omega), if_pos (by omega), out, bnd_s]
      | succ j ih =>
        intro k w1 y1 y2 hk hF hL1 hJ1
        have hbd := lits_bd (D := SA w) hg hb k (by omega)
        obtain ⟨w2, z1, z2, er, hF2, hL2, hJ2⟩ := layer_lit (p := k) (hF.ru hR) hru (by rw [hF.R]; exact hg) (by rw [hF.R]; omega) hL1 hbd (by omega) hJ1 (by rw [hF 13 (by decide)]; exact hrm)
        rw [hF.SA, hF.R] at hL2 hJ2
        obtain ⟨w', x1', x2', er', h'⟩ := ih (k + 1) w2 z1 z2 (by omega) (hF.trans hF2) hL2 hJ2
        refine ⟨w', x1', x2', ?_, h'⟩
        rw [← er']
        unfold f_Re_layer_50
        exact lp_step (s := (w1, y1, y2, ((5 * ru + k : Nat) : Int))) er
    exact loop (RBB w ru).ln 0 w x1 x2 (by omega) FrS.refl hL hJ
  · rw [if_neg hrm]
    refine ⟨w, x1, x2, ?_, FrS.refl, hL, hJ⟩
    unfold f_Re_layer_50
    refine lp_out ?_
    show f_Re_layer_50B w x1 x2 (ru : Int) ((5 * ru : Nat) : Int) = _
    unfold f_Re_layer_50B
    rw [gd_t ⟨by omega, by omega⟩, Int.toNat_natCast, if_neg hrm, out, bnd_s]
theorem sweepB {w : World} {m b : Nat} {L : Nat → Nat} (hP : PgB w m) (hL : LB w L) (hb : ∀ q, q < 10 → L q ≤ b) (hb2 : b < 800000) :
    ∃ w' x1' x2', f_Re_layer_37 w 0 1 0 = some (Sum.inl (w', x1', x2')) ∧ FrS w w' ∧ LB w' (rls (SA w) (FB w) (GB w) L m) ∧ JL L (rls (SA w) (FB w) (GB w) L m) x1' x2' := by
  obtain ⟨h14, hm12, hRu⟩ := id hP
  have loop : ∀ (j k : Nat) (w1 : World) (y1 y2 : Int), k + j = m → FrS w w1 → LB w1 (rls (SA w) (FB w) (GB w) L k) → JL L (rls (SA w) (FB w) (GB w) L k) y1 y2 → ∃ w' x1' x2', f_Re_layer_37 w1 y1 y2 (k : Int) = some (Sum.inl (w', x1', x2')) ∧ FrS w w' ∧ LB w' (rls (SA w) (FB w) (GB w) L m) ∧ JL L (rls (SA w) (FB w) (GB w) L m) x1' x2' := by
    intro j
    induction j with
    | zero =>
      intro k w1 y1 y2 hk hF hL1 hJ1
      have e : k = m := by omega
      rw [← e]
      refine ⟨w1, y1, y2, ?_, hF, hL1, hJ1⟩
      unfold f_Re_layer_37
      refine lp_out ?_
      show f_Re_layer_37B w1 y1 y2 (k : Int) = _
      unfold f_Re_layer_37B
      rw [hF 1 (by decide), h14, if_pos (by omega)]
    | succ j ih =>
      intro k w1 y1 y2 hk hF hL1 hJ1
      have hbd := rls_bd (D := SA w) (F := FB w) (G := GB w) (m := m) (fun i hi => ⟨(hRu i hi).2, (hRu i hi).1.2.2.2.1⟩) hb k (by omega)
      obtain ⟨hk1, hk2⟩ := hRu k (by omega)
      obtain ⟨w2, z1, z2, er, hF2, hL2, hJ2⟩ := layer_50 (b := b + 5 * k) (hF.ru hk1) (by omega) (by rw [hF.R]; exact hk2) hL1 hbd (by omega) hJ1
      rw [hF.SA, hF.R, hF 13 (by decide)] at hL2 hJ2
      have es : (if w 13 k = 0 then lits (SA w) (RBB w k) (rls (SA w) (FB w) (GB w) L k) (RBB w k).ln else rls (SA w) (FB w) (GB w) L k) = rls (SA w) (FB w) (GB w) L (k + 1) := by
        by_cases q : w 13 k = 0
        · rw [if_pos q]; exact (rls_s1 (D := SA w) (F := FB w) (G := GB w) (L := L) (n := k) q).symm
        · rw [if_neg q]; exact (rls_s0 (D := SA w) (F := FB w) (G := GB w) (L := L) (n := k) q).symm
      rw [es] at hL2 hJ2
      obtain ⟨w', x1', x2', er', h'⟩ := ih (k + 1) w2 z1 z2 (by omega) (hF.trans hF2) hL2 hJ2
      refine ⟨w', x1', x2', ?_, h'⟩
      rw [← er']
      unfold f_Re_layer_37
      refine lp_step (s := (w1, y1, y2, (k : Int))) ?_
      show f_Re_layer_37B w1 y1 y2 (k : Int) = _
      unfold f_Re_layer_37B
      rw [hF 1 (by decide), h14, if_neg (by omega), bl_s, wr_of (x := 5 * (k : Int)) ⟨by omega, by omega⟩]
      exact er
  exact loop m 0 w 0 1 (by omega) FrS.refl hL ⟨fun _ => Nat.le_refl _, Or.inl ⟨rfl, rfl, rfl⟩⟩
theorem layerB_loop {w : World} {m : Nat} (hP : PgB w m) : ∀ (N : Nat) (w1 : World) (x1 x2 : Int) (L : Nat → Nat) (b : Nat), FrS w w1 → LB w1 L → (∀ lv, SolL (SA w) (Rof (FB w) (GB w) m) lv → ∀ q : Nat, q < 10 → L q ≤ lv (q : Int)) → (∀ q, q < 10 → L q ≤ b) → b + 60 * N < 700000 → ((x1 = 1 ∧ x2 = 1 ∧ 100 < m10 L + N) ∨ (x1 = 0 ∧ x2 = 1 ∧ SolL (SA w) (Rof (FB w) (GB w) m) (lvf L)) ∨ (x2 = 0 ∧ ∃ q, q < 10 ∧ 10 ≤ L q)) →
    ∃ w' v L', f_Re_layer_25 w1 x1 x2 = some (w', v) ∧ FrS w w' ∧ LB w' L' ∧ StR (SA w) (Rof (FB w) (GB w) m) L' v := by
  have hg : ∀ i, i < m → Rng (FB w i) := fun i hi => (hP.2.2 i hi).2
  have fin : ∀ (w1 : World) (x1 x2 : Int) (L : Nat → Nat), FrS w w1 → LB w1 L → (∀ lv, SolL (SA w) (Rof (FB w) (GB w) m) lv → ∀ q : Nat, q < 10 → L q ≤ lv (q : Int)) → ((x1 = 0 ∧ x2 = 1 ∧ SolL (SA w) (Rof (FB w) (GB w) m) (lvf L)) ∨ (x2 = 0 ∧ ∃ q, q < 10 ∧ 10 ≤ L q)) → ∃ w' v L', f_Re_layer_25 w1 x1 x2 = some (w', v) ∧ FrS w w' ∧ LB w' L' ∧ StR (SA w) (Rof (FB w) (GB w) m) L' v := by
    intro w1 x1 x2 L hF hL hsol hx
    have hx2 : x2 = 0 ∨ x2 = 1 := hx.elim (fun z => Or.inr z.2.1) (fun z => Or.inl z.1)
    refine ⟨w1, x2, L, ?_, hF, hL, hsol, hx.imp (fun z => ⟨z.2.1, z.2.2⟩) (fun z => z)⟩
    unfold f_Re_layer_25
    refine lp_out ?_
    show f_Re_layer_25B w1 x1 x2 = _
    unfold f_Re_layer_25B
    by_cases q1 : x1 = 0
    · rw [if_pos q1, gd_t hx2]
    · have q2 : x2 = 0 := hx.elim (fun z => absurd z.1 q1) (fun z => z.1)
      rw [if_neg q1, if_pos q2, gd_t hx2]
  intro N
  induction N with
  | zero =>
    intro w1 x1 x2 L b hF hL hsol hb hb2 hx
    rcases hx with ⟨a1, a2, a3⟩ | hx
    · exfalso
      have : m10 L ≤ 10 * 10 := sumN_le (fun i => Nat.min_le_right _ _) 10
      omega
    · exact fin w1 x1 x2 L hF hL hsol hx
  | succ N ih =>
    intro w1 x1 x2 L b hF hL hsol hb hb2 hx
    rcases hx with ⟨a1, a2, a3⟩ | hx
    · obtain ⟨w2, y1, y2, er, hF2, hL2, hJ2⟩ := sweepB (hP.fr hF) hL hb (by omega)
      rw [hF.SA, FrS_FB hF, FrS_GB hF] at hL2 hJ2
      have hsol2 : ∀ lv, SolL (SA w) (Rof (FB w) (GB w) m) lv → ∀ q : Nat, q < 10 → rls (SA w) (FB w) (GB w) L m q ≤ lv (q : Int) := fun lv hlv => rls_sol hlv hg (hsol lv hlv) m (Nat.le_refl _)
      have hbd := rls_bd (D := SA w) (F := FB w) (G := GB w) (m := m) (fun i hi => ⟨(hP.2.2 i hi).2, (hP.2.2 i hi).1.2.2.2.1⟩) hb m (Nat.le_refl _)
      have e : f_Re_layer_25 w1 x1 x2 = f_Re_layer_25 w2 y1 y2 := by
        unfold f_Re_layer_25
        refine lp_step (s := (w1, x1, x2)) ?_
        show f_Re_layer_25B w1 x1 x2 = _
        unfold f_Re_layer_25B
        rw [if_neg (by omega), if_neg (by omega), a2, er]
      rw [e]
      have hm := hP.2.1
      rcases hJ2.2 with ⟨b1, b3, b4⟩ | ⟨b1, b3, ⟨b4, b5⟩ | ⟨b4, b5⟩⟩
      · exact fin w2 y1 y2 _ (hF.trans hF2) hL2 hsol2 (Or.inl ⟨b1, b4, by rw [b3]; exact rls_fix hg b3⟩)
      · exact ih w2 y1 y2 _ (b + 5 * m) (hF.trans hF2) hL2 hsol2 hbd (by omega) (Or.inl ⟨b1, b4, by omega⟩)
      · exact fin w2 y1 y2 _ (hF.trans hF2) hL2 hsol2 (Or.inr ⟨b4, b5⟩)
    · exact fin w1 x1 x2 L hF hL hsol hx
/-- the reference's strata -/
theorem layer_n {w : World} {m : Nat} (hP : PgB w m) : ∃ w' v L, f_Re_layer w = some (w', v) ∧ FrS w w' ∧ LB w' L ∧ StR (SA w) (Rof (FB w) (GB w) m) L v := by
  let g : Nat → World := fun i => fun c k => if c = 6 ∧ k < i then 0 else w c k
  have hF : FrS w (g 10) := fun c h1 => by
    funext k
    show (if c = 6 ∧ k < 10 then 0 else w c k) = w c k
    rw [if_neg (fun z => h1 z.1)]
  have hL : LB (g 10) (fun _ => 0) := fun q hq => by
    show (if 6 = 6 ∧ q < 10 then (0 : Int) else w 6 q) = _
    rw [if_pos ⟨rfl, hq⟩]
    rfl
  obtain ⟨w', v, L, er, h1, h2, h3⟩ := layerB_loop hP 200 (g 10) 1 1 (fun _ => 0) 0 hF hL (fun lv _ q _ => Nat.zero_le _) (fun _ _ => Nat.le_refl _) (by omega) (Or.inl ⟨rfl, rfl, by omega⟩)
  refine ⟨w', v, L, ?_, h1, h2, h3⟩
  have h := lp_go (F := fun z : (World × Int) => f_Re_layer_2B z.1 z.2) (fun i => (g i, (i : Int))) (w', v) 10 (fun i hi => by
    show f_Re_layer_2B (g i) (i : Int) = some (Sum.inl (g (i + 1), ((i + 1 : Nat) : Int)))
    unfold f_Re_layer_2B
    rw [if_neg (by omega), gd_t ⟨by omega, by omega⟩, bl_s, bl_s, wr_of (x := (i : Int) + 1) ⟨by omega, by omega⟩, Int.toNat_natCast]
    have e : up (g i) 6 i 0 = g (i + 1) := by
      funext c k
      show (if c = 6 ∧ k = i then 0 else if c = 6 ∧ k < i then 0 else w c k) = if c = 6 ∧ k < i + 1 then 0 else w c k
      by_cases q : c = 6
      · by_cases q1 : k = i
        · rw [if_pos ⟨q, q1⟩, if_pos ⟨q, by omega⟩]
        · by_cases q2 : k < i
          · rw [if_neg (fun z => q1 z.2), if_pos ⟨q, q2⟩, if_pos ⟨q, by omega⟩]
          · rw [if_neg (fun z => q1 z.2), if_neg (fun z => q2 z.2), if_neg (fun z => q2 (by omega))]
      · rw [if_neg (fun z => q z.1), if_neg (fun z => q z.1), if_neg (fun z => q z.1)]
    rw [e]
    rfl) (by
    show f_Re_layer_2B (g 10) ((10 : Nat) : Int) = _
    unfold f_Re_layer_2B
    rw [if_pos (by decide), er, bnd_s])
  have e0 : g 0 = w := by
    funext c k
    show (if c = 6 ∧ k < 0 then (0 : Int) else w c k) = w c k
    rw [if_neg (fun z => absurd z.2 (Nat.not_lt_zero k))]
  have h : lp (fun z : (World × Int) => f_Re_layer_2B z.1 z.2) (g 0, ((0 : Nat) : Int)) = some (w', v) := h
  rw [e0] at h
  unfold f_Re_layer f_Re_layer_2
  exact h
