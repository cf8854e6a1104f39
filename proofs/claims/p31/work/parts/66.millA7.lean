/-! THE CLASS'S MILL: a sweep through all rules -/
theorem Evo_low {D : SH} {lv : Int → Nat} {sl t N N' : Nat} {rd : Int} {w w' : World} {ρ c ρ' c' : Nat → Nat} (hkt : kdA t = 6) (h : Evo D lv sl t rd w N ρ c w' N' ρ' c') : ∀ c0, c0 < 98 → w' c0 = w c0 := fun c0 hc => by
  have h6 := kd6 hkt
  exact h.1 c0 (by omega) (by omega)
theorem sw79_whole {D : SH} {lv : Int → Nat} {FF : MM} {RR : RU → Prop} {sl t b r : Nat} {R : RU} {rd x4 x6 : Int} (hkb : kdA b = 1) (hkt : kdA t = 6) (hRu : RuL D lv RR sl r R) (hrd : 1 ≤ rd ∧ rd ≤ 1000000) (hx4 : x4 ≠ 0) (w : World) (N : Nat) (ρ c : Nat → Nat) (L : Nat → List Nat) (x5 : Int) (hSI : SI D lv FF RR sl t w N ρ c L) (hRB : RB w b = R) (hb0 : w b 0 = (R.ln : Int)) (ho : w t 2 ≠ 0 → w t 2 = 1 ∧ OvB D lv FF RR sl (AM N ρ c)) (h5 : x5 = 0 ∨ x5 = 1) :
    ∃ w' x5' N' ρ' c' L', f_Mi_sweep_79 w t (sl : Int) rd x4 x5 x6 b 1 1 0 = some (Sum.inl (w', x5', wr (x6 + 1))) ∧ Rs D lv FF RR sl t rd w N ρ c L x5 w' N' ρ' c' L' x5' ∧ (w' t 2 = 0 → CvP D lv sl t rd (-1) (rd - 1) R w' N' ρ' c') := by
  by_cases ho0 : w t 2 = 0
  · obtain ⟨w1, x51, N1, ρ1, c1, L1, er, hRs, hcv⟩ := walk_cv (FF := FF) (p := -1) (lr := rd - 1) (rd := rd) (x2 := (sl : Int)) (x4 := x4) (x6 := x6) (x8 := 1) (x9 := 1) (x10 := 0) hkb hkt hSI hRu hRB (Or.inl rfl) ho0 h5
    refine ⟨w1, x51, N1, ρ1, c1, L1, ?_, hRs, hcv⟩
    have e : f_Mi_sweep_79 w t (sl : Int) rd x4 x5 x6 b 1 1 0 = f_Mi_sweep_79 w1 t (sl : Int) rd x4 x51 x6 b 1 1 1 := by
      unfold f_Mi_sweep_79
      refine lp_step (s := (w, x5, (0 : Int))) (s' := (w1, x51, (1 : Int))) ?_
      show f_Mi_sweep_79B w t (sl : Int) rd x4 x5 x6 b 1 1 0 = _
      unfold f_Mi_sweep_79B f_Mi_sweep_115 f_Mi_sweep_145
      rw [if_neg (by decide), if_neg (by decide), if_pos ho0, if_neg hx4, hb0, begin_n, bnd_s, if_neg hx4, leadBy_n, bnd_s, wr_of (x := rd - 1) ⟨by omega, by omega⟩, er]
      rfl
    rw [e]
    unfold f_Mi_sweep_79
    refine lp_out ?_
    show f_Mi_sweep_79B w1 t (sl : Int) rd x4 x51 x6 b 1 1 1 = _
    unfold f_Mi_sweep_79B
    rw [if_pos (by decide), sw223, bnd_s]
  · refine ⟨w, x5, N, ρ, c, L, ?_, Rs.refl hSI h5 ho, fun hf => absurd hf ho0⟩
    unfold f_Mi_sweep_79
    refine lp_out ?_
    show f_Mi_sweep_79B w t (sl : Int) rd x4 x5 x6 b 1 1 0 = _
    unfold f_Mi_sweep_79B
    rw [if_neg (by decide), if_neg (by decide), if_neg ho0, sw223, bnd_s]
theorem sw79_not {w : World} {t b : Nat} {x2 x3 x4 x5 x6 x9 : Int} : f_Mi_sweep_79 w t x2 x3 x4 x5 x6 b 0 x9 0 = some (Sum.inl (w, x5, wr (x6 + 1))) := by
  unfold f_Mi_sweep_79
  refine lp_out ?_
  show f_Mi_sweep_79B w t x2 x3 x4 x5 x6 b 0 x9 0 = _
  unfold f_Mi_sweep_79B
  by_cases h : x9 ≤ 0
  · rw [if_pos h, sw223, bnd_s]
  · rw [if_neg h, if_pos rfl, sw223, bnd_s]
/-- the program as a mill finds it -/
def PrW (D : SH) (lv : Int → Nat) (RR : RU → Prop) (m : Nat) (w : World) : Prop :=
  w 14 4 = (m : Int) ∧ m ≤ 12 ∧ (∀ j : Nat, j < 12 → w 19 j = ((22 + 4 * j : Nat) : Int)) ∧ (∀ q : Nat, q < 10 → w 21 q = (lv (q : Int) : Int)) ∧ WfD D ∧ Lev D lv RR ∧
  ∀ j, j < m → w (22 + 4 * j) 0 = ((RB w (22 + 4 * j)).ln : Int) ∧ (w (22 + 4 * j) 2 = 0 → RR (RB w (22 + 4 * j)) ∧ SafeL (RB w (22 + 4 * j)) ∧ SafeH (RB w (22 + 4 * j)) ∧ Few (RB w (22 + 4 * j)) ∧ ∃ r : Nat, r < 10 ∧ (RB w (22 + 4 * j)).tg = (r : Int))
theorem PrW_congr {D : SH} {lv : Int → Nat} {RR : RU → Prop} {m : Nat} {w w' : World} (h : ∀ c, c < 98 → w' c = w c) (hP : PrW D lv RR m w) : PrW D lv RR m w' := by
  obtain ⟨a1, a2, a3, a4, a5, a6, a7⟩ := hP
  refine ⟨by rw [h 14 (by omega)]; exact a1, a2, by rw [h 19 (by omega)]; exact a3, by rw [h 21 (by omega)]; exact a4, a5, a6, fun j hj => ?_⟩
  have e : RB w' (22 + 4 * j) = RB w (22 + 4 * j) := RB_congr (h _ (by omega)) (h _ (by omega)) (h _ (by omega)) (h _ (by omega))
  rw [e, h (22 + 4 * j) (by omega)]
  exact a7 j hj
theorem kd_rule : ∀ j, j < 12 → kdA (22 + 4 * j) = 1 := by decide +kernel
theorem rule_n {w : World} {j : Nat} (hj : j < 12) (h : w 19 j = ((22 + 4 * j : Nat) : Int)) : f_Pr_rule w (j : Int) = some (22 + 4 * j) := by
  unfold f_Pr_rule f_Pr_rule_26
  rw [if_neg (by omega), if_neg (by omega), gd_t ⟨by omega, by omega⟩, Int.toNat_natCast, h, Int.toNat_natCast, if_neg (by omega)]
/-- what a sweep has covered of a rule -/
def CvR (D : SH) (lv : Int → Nat) (sl t : Nat) (rd x4 : Int) (R : RU) (w : World) (N : Nat) (ρ c : Nat → Nat) : Prop :=
  if x4 = 0 then ∀ q, q < R.ln → R.fm q = 0 → lv (R.sj q) = sl → CvP D lv sl t rd (q : Int) (rd - 1) R w N ρ c else CvP D lv sl t rd (-1) (rd - 1) R w N ρ c
theorem CvR.evo {D : SH} {lv : Int → Nat} {sl t N N' : Nat} {rd x4 : Int} {R : RU} {w w' : World} {ρ c ρ' c' : Nat → Nat} (h : CvR D lv sl t rd x4 R w N ρ c) (he : Evo D lv sl t rd w N ρ c w' N' ρ' c') : CvR D lv sl t rd x4 R w' N' ρ' c' := by
  unfold CvR at h ⊢
  by_cases hx : x4 = 0
  · rw [if_pos hx] at h ⊢
    exact fun q h1 h2 h3 => (h q h1 h2 h3).evo he
  · rw [if_neg hx] at h ⊢
    exact h.evo he
theorem sw6 {D : SH} {lv : Int → Nat} {FF : MM} {RR : RU → Prop} {sl t m : Nat} {rd x4 : Int} (hkt : kdA t = 6) (hrd : 1 ≤ rd ∧ rd ≤ 1000000) : ∀ (j k : Nat) (w : World) (N : Nat) (ρ c : Nat → Nat) (L : Nat → List Nat) (x5 : Int), k + j = m → SI D lv FF RR sl t w N ρ c L → PrW D lv RR m w → (w t 2 ≠ 0 → w t 2 = 1 ∧ OvB D lv FF RR sl (AM N ρ c)) → (x5 = 0 ∨ x5 = 1) →
    ∃ w' x5' N' ρ' c' L', f_Mi_sweep_6 w t (sl : Int) rd x4 x5 (k : Int) = some (w', x5') ∧ Rs D lv FF RR sl t rd w N ρ c L x5 w' N' ρ' c' L' x5' ∧ (w' t 2 = 0 → ∀ i, k ≤ i → i < m → w (22 + 4 * i) 2 = 0 → lv (RB w (22 + 4 * i)).tg = sl → CvR D lv sl t rd x4 (RB w (22 + 4 * i)) w' N' ρ' c') := by
  intro j
  have h6 := kd6 hkt
  induction j with
  | zero =>
    intro k w N ρ c L x5 hk hSI hPr ho h5
    refine ⟨w, x5, N, ρ, c, L, ?_, Rs.refl hSI h5 ho, fun _ i h1 h2 => absurd h2 (by omega)⟩
    unfold f_Mi_sweep_6
    refine lp_out ?_
    show f_Mi_sweep_6B w t (sl : Int) rd x4 x5 (k : Int) = _
    unfold f_Mi_sweep_6B
    rw [hPr.1, if_pos (by omega), gd_t h5]
  | succ j ih =>
    intro k w N ρ c L x5 hk hSI hPr ho h5
    obtain ⟨p1, p2, p3, p4, p5, p6, p7⟩ := id hPr
    have hk12 : k < 12 := by omega
    have hkb := kd_rule k hk12
    obtain ⟨hb0, hru⟩ := p7 k (by omega)
    have hrule := rule_n hk12 (p3 k hk12)
    have hcast : ((k + 1 : Nat) : Int) = (k : Int) + 1 := by omega
    -- one rule
    have one : ∃ w1 x51 N1 ρ1 c1 L1, f_Mi_sweep_6B w t (sl : Int) rd x4 x5 (k : Int) = some (Sum.inl (w1, x51, ((k + 1 : Nat) : Int))) ∧ Rs D lv FF RR sl t rd w N ρ c L x5 w1 N1 ρ1 c1 L1 x51 ∧ (w1 t 2 = 0 → w (22 + 4 * k) 2 = 0 → lv (RB w (22 + 4 * k)).tg = sl → CvR D lv sl t rd x4 (RB w (22 + 4 * k)) w1 N1 ρ1 c1) := by
      unfold f_Mi_sweep_6B
      rw [p1, if_neg (by omega), hrule, bnd_s, gd_t hkb]
      have not57 : f_Mi_sweep_57 w t (sl : Int) rd x4 x5 (k : Int) (22 + 4 * k) = some (Sum.inl (w, x5, ((k + 1 : Nat) : Int))) := by
        unfold f_Mi_sweep_57 f_Mi_sweep_58 f_Mi_sweep_74
        rw [hcast]
        split
        · rw [sw79_not, wr_of (x := (k : Int) + 1) ⟨by omega, by omega⟩]
        · rw [sw79_not, wr_of (x := (k : Int) + 1) ⟨by omega, by omega⟩]
      by_cases hrm : w (22 + 4 * k) 2 = 0
      · rw [if_pos hrm]
        obtain ⟨q1, q2, q3, q4, r, hr10, htg⟩ := hru hrm
        have e1 : w (22 + 4 * k) 1 = (r : Int) := htg
        rw [e1, levelOf_n hr10, bnd_s, p4 r hr10]
        by_cases hl : lv (r : Int) = sl
        · rw [if_pos (by omega)]
          have hRu : RuL D lv RR sl r (RB w (22 + 4 * k)) := ⟨p5, p6, q1, hl, htg, hr10, q2, q3, q4⟩
          unfold f_Mi_sweep_58 f_Mi_sweep_74
          by_cases hx : x4 = 0
          · rw [if_pos hx, hb0, hx]
            obtain ⟨w1, x51, N1, ρ1, c1, L1, er, hRs, hcv⟩ := sw79_lead (x6 := (k : Int)) hkb hkt hRu hrd (RB w (22 + 4 * k)).ln 0 w N ρ c L x5 (by omega) hSI rfl hb0 p4 ho h5
            have er : f_Mi_sweep_79 w t (sl : Int) rd 0 x5 (k : Int) (22 + 4 * k) 1 ((RB w (22 + 4 * k)).ln : Int) 0 = some (Sum.inl (w1, x51, wr ((k : Int) + 1))) := er
            refine ⟨w1, x51, N1, ρ1, c1, L1, ?_, hRs, fun hf _ _ => ?_⟩
            · rw [er, hcast, wr_of (x := (k : Int) + 1) ⟨by omega, by omega⟩]
            · unfold CvR
              rw [if_pos rfl]
              exact fun q h1 h2 h3 => hcv hf q (by omega) h1 h2 h3
          · rw [if_neg hx]
            obtain ⟨w1, x51, N1, ρ1, c1, L1, er, hRs, hcv⟩ := sw79_whole (x6 := (k : Int)) hkb hkt hRu hrd hx w N ρ c L x5 hSI rfl hb0 ho h5
            refine ⟨w1, x51, N1, ρ1, c1, L1, ?_, hRs, fun hf _ _ => ?_⟩
            · rw [er, hcast, wr_of (x := (k : Int) + 1) ⟨by omega, by omega⟩]
            · unfold CvR
              rw [if_neg hx]
              exact hcv hf
        · rw [if_neg (by omega), not57]
          exact ⟨w, x5, N, ρ, c, L, rfl, Rs.refl hSI h5 ho, fun _ _ e => absurd (by rw [htg] at e; exact e) hl⟩
      · rw [if_neg hrm, not57]
        exact ⟨w, x5, N, ρ, c, L, rfl, Rs.refl hSI h5 ho, fun _ e => absurd e hrm⟩
    obtain ⟨w1, x51, N1, ρ1, c1, L1, er, hRs, hcv⟩ := one
    have hlow := Evo_low hkt hRs.2.1
    obtain ⟨w', x5', N', ρ', c', L', er', hRs', hcv'⟩ := ih (k + 1) w1 N1 ρ1 c1 L1 x51 (by omega) hRs.1 (PrW_congr hlow hPr) hRs.2.2.2.2.1 hRs.five
    refine ⟨w', x5', N', ρ', c', L', ?_, hRs.trans hPr.2.2.2.2.1 hRs', fun hf i h1 h2 h3 h4 => ?_⟩
    · rw [← er']
      unfold f_Mi_sweep_6
      exact lp_step (s := (w, x5, (k : Int))) er
    · by_cases e : i = k
      · subst e
        by_cases hf1 : w1 t 2 = 0
        · exact (hcv hf1 h3 h4).evo hRs'.2.1
        · exact absurd hf (hRs'.2.2.2.2.2 hf1)
      · have eRB : RB w1 (22 + 4 * i) = RB w (22 + 4 * i) := RB_congr (hlow _ (by omega)) (hlow _ (by omega)) (hlow _ (by omega)) (hlow _ (by omega))
        have := hcv' hf i (by omega) h2 (by rw [hlow _ (by omega)]; exact h3) (by rw [eRB]; exact h4)
        rw [eRB] at this
        exact this
