/-! THE REFERENCE'S MODELS: facts, rounds, strata -/
theorem iff_le {n : Nat} (h : ¬ n ≤ 48) (h2 : n ≤ 49) : n = 49 := by omega
/-- how rounds end: small and every assignment has its head, or too many -/
def EndB (D : SH) (lv : Int → Nat) (RR : RU → Prop) (sl n : Nat) (ρ c : Nat → Nat) (x4 : Int) : Prop := (x4 = 1 ∧ n ≤ 48 ∧ CvA D lv RR sl n ρ c) ∨ (x4 = 0 ∧ n = 49)
theorem loop142 {D : SH} {lv : Int → Nat} {FF : MM} {RR : RU → Prop} {sl M m : Nat} {x2 x3 : Int} (hM : M < 5) (hsl : sl < 10) : ∀ (N : Nat) (w : World) (n : Nat) (ρ c : Nat → Nat) (x4 x6 : Int), SB D lv FF RR sl M w n ρ c → PrB D lv RR m w → PrCB RR m w → (x6 ≠ 0 → n ≤ 48) → (x6 = 0 → EndB D lv RR sl n ρ c x4) → 6272 ≤ Ph D ρ c n + N →
    ∃ w' x4' n' ρ' c', f_Re_build_142 w (M : Int) x2 x3 x4 (sl : Int) x6 = some (Sum.inl (w', x4', ((sl + 1 : Nat) : Int))) ∧ SB D lv FF RR sl M w' n' ρ' c' ∧ EvB D lv sl M w n ρ c w' n' ρ' c' ∧ EndB D lv RR sl n' ρ' c' x4' := by
  intro N
  induction N with
  | zero =>
    intro w n ρ c x4 x6 hSB hPr hPc h6 h60 hph
    have hcast : wr ((sl : Int) + 1) = ((sl + 1 : Nat) : Int) := by rw [wr_of (x := (sl : Int) + 1) ⟨by omega, by omega⟩]; rfl
    by_cases q : x6 = 0
    · refine ⟨w, x4, n, ρ, c, ?_, hSB, EvB.refl, h60 q⟩
      unfold f_Re_build_142
      refine lp_out ?_
      show f_Re_build_142B w (M : Int) x2 x3 x4 (sl : Int) x6 = _
      unfold f_Re_build_142B
      rw [if_pos q, bl_s, hcast]
    · have hn := h6 q
      have hP := Ph_128 (D := D) (ρ := ρ) (c := c) n
      exfalso
      omega
  | succ N ih =>
    intro w n ρ c x4 x6 hSB hPr hPc h6 h60 hph
    have hcast : wr ((sl : Int) + 1) = ((sl + 1 : Nat) : Int) := by rw [wr_of (x := (sl : Int) + 1) ⟨by omega, by omega⟩]; rfl
    by_cases q : x6 = 0
    · refine ⟨w, x4, n, ρ, c, ?_, hSB, EvB.refl, h60 q⟩
      unfold f_Re_build_142
      refine lp_out ?_
      show f_Re_build_142B w (M : Int) x2 x3 x4 (sl : Int) x6 = _
      unfold f_Re_build_142B
      rw [if_pos q, bl_s, hcast]
    · have hn := h6 q
      obtain ⟨w1, xr, n1, ρ1, c1, er, hSB1, hEv1, hr1, hun1⟩ := round_n hM hSB hPr hPc hn
      have h20 : w1 20 M = (n1 : Int) := hSB1.2.2.1.2.1
      have h49 : n1 ≤ 49 := hSB1.2.2.1.2.2.1
      obtain ⟨y4, y6, hy, hy6, hy60⟩ : ∃ y4 y6 : Int, f_Re_build_142B w (M : Int) x2 x3 x4 (sl : Int) x6 = some (Sum.inl (w1, y4, y6)) ∧ (y6 ≠ 0 → n1 ≤ 48 ∧ xr ≠ 0) ∧ (y6 = 0 → EndB D lv RR sl n1 ρ1 c1 y4) := by
        unfold f_Re_build_142B f_Re_build_172 f_Re_build_188 f_Re_build_189
        rw [if_neg q, er, bnd_s, gd_t ⟨by omega, by omega⟩, Int.toNat_natCast]
        show ∃ y4 y6 : Int, (if 48 < w1 20 M then (if xr = 0 then _ else _) else _) = _ ∧ _
        rw [h20]
        by_cases h48 : n1 ≤ 48
        · rw [if_neg (by omega)]
          by_cases hx : xr = 0
          · obtain ⟨u1, u2, u3, u4⟩ := hun1 hx
            refine ⟨1, 0, by rw [if_pos hx], fun e => absurd rfl e, fun _ => Or.inl ⟨rfl, h48, ?_⟩⟩
            subst u1 u2 u3
            exact u4
          · exact ⟨1, 1, by rw [if_neg hx, if_neg (by decide)], fun _ => ⟨h48, hx⟩, fun e => (by cases e)⟩
        · rw [if_pos (by omega)]
          refine ⟨0, 0, ?_, fun e => absurd rfl e, fun _ => Or.inr ⟨rfl, by omega⟩⟩
          by_cases hx : xr = 0
          · rw [if_pos hx]
          · rw [if_neg hx, if_pos rfl]
      have e : f_Re_build_142 w (M : Int) x2 x3 x4 (sl : Int) x6 = f_Re_build_142 w1 (M : Int) x2 x3 y4 (sl : Int) y6 := by
        unfold f_Re_build_142
        exact lp_step (s := (w, x4, x6)) hy
      rw [e]
      by_cases q2 : y6 = 0
      · refine ⟨w1, y4, n1, ρ1, c1, ?_, hSB1, hEv1, hy60 q2⟩
        unfold f_Re_build_142
        refine lp_out ?_
        show f_Re_build_142B w1 (M : Int) x2 x3 y4 (sl : Int) y6 = _
        unfold f_Re_build_142B
        rw [if_pos q2, bl_s, hcast]
      · have hx := (hy6 q2).2
        have hlt : Ph D ρ c n < Ph D ρ1 c1 n1 := by
          rcases hr1 with z | z
          · exact absurd z hx
          · exact z.2
        obtain ⟨w', x4', n', ρ', c', er', h1, h2, h3⟩ := ih w1 n1 ρ1 c1 y4 y6 hSB1 (PrB_congr hEv1.1 hPr) (PrCB_congr hEv1.1 hPc) (fun z => (hy6 z).1) hy60 (by omega)
        exact ⟨w', x4', n', ρ', c', er', h1, hEv1.trans h2, h3⟩
/-- facts as the reference has them -/
def FaB (nF : Nat) (w : World) : Prop := w 1 7 = (nF : Int) ∧ nF ≤ 24 ∧ ∀ f, f < nF → ∃ r k : Nat, w 7 f = (r : Int) ∧ r < 10 ∧ 1 ≤ w 3 r ∧ (∀ j, j < 3 → w 8 (3 * f + j) = ((clm k j : Nat) : Int)) ∧ k < 2097152 ∧ Vc w r k
def FcB (w : World) (hour wo : Int) (f : Nat) : Prop := w 12 f = 0 ∧ w 10 f ≤ hour ∧ hour ≤ w 11 f ∧ iand (ishr wo (f : Int)) 1 = 0
def FFB (nF : Nat) (w : World) (hour wo : Int) : MM := fun r k => ∃ f, f < nF ∧ FcB w hour wo f ∧ w 7 f = r ∧ (∀ j, j < 3 → w 8 (3 * f + j) = ((clm k j : Nat) : Int)) ∧ k < 2097152
theorem FaB_congr {nF M : Nat} {w w' : World} (h : FrR M w w') (hF : FaB nF w) : FaB nF w' := by
  obtain ⟨h1, h2, h3⟩ := hF
  have e : ∀ c, 2 ≤ c → c < 20 → w' c = w c := fun c h1 h2 => h.cell (by omega) (by omega)
  refine ⟨by rw [h.f (by omega) (by omega)]; exact h1, h2, fun f hf => ?_⟩
  obtain ⟨r, k, a1, a2, a3, a4, a5, a6⟩ := h3 f hf
  refine ⟨r, k, by rw [e 7 (by omega) (by omega)]; exact a1, a2, by rw [e 3 (by omega) (by omega)]; exact a3, by rw [e 8 (by omega) (by omega)]; exact a4, a5, ?_⟩
  unfold Vc
  rw [e 3 (by omega) (by omega)]
  exact a6
theorem FFB_congr {nF M : Nat} {w w' : World} (h : FrR M w w') {hour wo : Int} : FFB nF w' hour wo = FFB nF w hour wo := by
  have e : ∀ c, 2 ≤ c → c < 20 → w' c = w c := fun c h1 h2 => h.cell (by omega) (by omega)
  unfold FFB FcB
  rw [e 12 (by omega) (by omega), e 10 (by omega) (by omega), e 11 (by omega) (by omega), e 7 (by omega) (by omega), e 8 (by omega) (by omega)]
theorem clm_inj {a b : Nat} (ha : a < 2097152) (hb : b < 2097152) (h : ∀ j, j < 3 → clm a j = clm b j) : a = b := by
  rw [← clm_pk ha, ← clm_pk hb, h 0 (by omega), h 1 (by omega), h 2 (by omega)]
theorem loop28 {D : SH} {lv : Int → Nat} {FF : MM} {RR : RU → Prop} {sl M m nF : Nat} {hour wo : Int} (hM : M < 5) (hsl : sl < 10) : ∀ (j k : Nat) (w : World) (n : Nat) (ρ c : Nat → Nat) (x4 : Int), k + j = nF → SB D lv FF RR sl M w n ρ c → PrB D lv RR m w → FaB nF w → (∀ r k, FFB nF w hour wo r k → FF r k) → ((x4 = 1 ∧ n ≤ 48) ∨ (x4 = 0 ∧ n = 49)) →
    ∃ w' x4' n' ρ' c', (∀ z, f_Re_build_142 w' (M : Int) hour wo x4' (sl : Int) x4' = some z → f_Re_build_28 w (M : Int) hour wo x4 (sl : Int) (k : Int) = some z) ∧ SB D lv FF RR sl M w' n' ρ' c' ∧ EvB D lv sl M w n ρ c w' n' ρ' c' ∧ ((x4' = 1 ∧ n' ≤ 48 ∧ ∀ f, k ≤ f → f < nF → ∀ r z, FcB w hour wo f → w 7 f = r → lv r = sl → (∀ j, j < 3 → w 8 (3 * f + j) = ((clm z j : Nat) : Int)) → z < 2097152 → ∃ k', AM n' ρ' c' r k' ∧ le D r z k') ∨ (x4' = 0 ∧ n' = 49)) := by
  intro j
  induction j with
  | zero =>
    intro k w n ρ c x4 hk hSB hPr hF hFF hx
    refine ⟨w, x4, n, ρ, c, fun z hz => ?_, hSB, EvB.refl, hx.imp (fun h => ⟨h.1, h.2, fun f h1 h2 => absurd h2 (by omega)⟩) (fun h => h)⟩
    unfold f_Re_build_28
    refine lp_out ?_
    show f_Re_build_28B w (M : Int) hour wo x4 (sl : Int) (k : Int) = _
    unfold f_Re_build_28B f_Re_build_138
    rw [hF.1, if_pos (by omega), hz, bnd_s]
  | succ j ih =>
    intro k w n ρ c x4 hk hSB hPr hF hFF hx
    have hnF := hF.2.1
    by_cases hx0 : x4 = 0
    · refine ⟨w, x4, n, ρ, c, fun z hz => ?_, hSB, EvB.refl, Or.inr (hx.resolve_left (fun h => by omega))⟩
      unfold f_Re_build_28
      refine lp_out ?_
      show f_Re_build_28B w (M : Int) hour wo x4 (sl : Int) (k : Int) = _
      unfold f_Re_build_28B f_Re_build_138
      rw [hF.1, if_neg (by omega), if_pos hx0, hz, bnd_s]
    · have hn : n ≤ 48 := by rcases hx with h | h; exact h.2; exact absurd h.1 hx0
      obtain ⟨r, kc, a1, a2, a3, a4, a5, a6⟩ := hF.2.2 k (by omega)
      have h6 := hPr.2.2.1 r a2
      have c132 : ∀ (w : World) (x : Int), f_Re_build_132 w (M : Int) hour wo x (sl : Int) (k : Int) = some (Sum.inl (w, x, ((k + 1 : Nat) : Int))) := fun w x => by
        unfold f_Re_build_132
        rw [bl_s, wr_of (x := (k : Int) + 1) ⟨by omega, by omega⟩]
        rfl
      -- one fact
      have one : ∃ w1 x41 n1 ρ1 c1, f_Re_build_28B w (M : Int) hour wo x4 (sl : Int) (k : Int) = some (Sum.inl (w1, x41, ((k + 1 : Nat) : Int))) ∧ SB D lv FF RR sl M w1 n1 ρ1 c1 ∧ EvB D lv sl M w n ρ c w1 n1 ρ1 c1 ∧ ((x41 = 1 ∧ n1 ≤ 48) ∨ (x41 = 0 ∧ n1 = 49)) ∧ (FcB w hour wo k → lv (r : Int) = sl → ∃ k', AM n1 ρ1 c1 (r : Int) k' ∧ le D (r : Int) kc k') := by
        unfold f_Re_build_28B
        rw [hF.1, if_neg (by omega), if_neg hx0, gd_t ⟨by omega, by omega⟩, Int.toNat_natCast, a1, gd_t ⟨by omega, by omega⟩, Int.toNat_natCast, h6]
        by_cases hl : lv (r : Int) = sl
        · rw [if_pos (by omega)]
          obtain ⟨v, hv, hv01, hviff⟩ := holdsInB_n (w := w) (f := k) (hour := hour) (wo := wo) (by omega)
          rw [hv, bnd_s]
          by_cases hv0 : v = 0
          · rw [if_pos hv0, c132]
            refine ⟨w, x4, n, ρ, c, rfl, hSB, EvB.refl, hx, fun h => ?_⟩
            have := hviff.mpr h
            omega
          · rw [if_neg hv0]
            have hFc : FcB w hour wo k := hviff.mp (hv01.resolve_left hv0)
            have i0 : wr (3 * (k : Int)) = ((3 * k + 0 : Nat) : Int) := by rw [wr_of (x := 3 * (k : Int)) ⟨by omega, by omega⟩]; omega
            have i1 : wr (((3 * k + 0 : Nat) : Int) + 1) = ((3 * k + 1 : Nat) : Int) := by rw [wr_of (x := ((3 * k + 0 : Nat) : Int) + 1) ⟨by omega, by omega⟩]; omega
            have i2 : wr (((3 * k + 0 : Nat) : Int) + 2) = ((3 * k + 2 : Nat) : Int) := by rw [wr_of (x := ((3 * k + 0 : Nat) : Int) + 2) ⟨by omega, by omega⟩]; omega
            obtain ⟨w1, ch, n1, ρ1, c1, etk, hF1, hSB1, hEv1, hch, hch0, hcv⟩ := takeB_step (m := kc) hSB hn a2 hl a3 a5 a6 (fun M' hO hg hC => hC.1 _ _ (hFF _ _ ⟨k, by omega, hFc, a1, a4, a5⟩) hl)
            have h20 : w1 20 M = (n1 : Int) := hSB1.2.2.1.2.1
            have h49 : n1 ≤ 49 := hSB1.2.2.1.2.2.1
            rw [gd_t ⟨by omega, by omega⟩, i0, gd_t ⟨by omega, by omega⟩, i1, gd_t ⟨by omega, by omega⟩, i2, gd_t ⟨by omega, by omega⟩, Int.toNat_natCast, Int.toNat_natCast, Int.toNat_natCast, a4 0 (by omega), a4 1 (by omega), a4 2 (by omega), etk, bnd_s, gd_t ⟨by omega, by omega⟩, Int.toNat_natCast]
            show ∃ w1_1 x41 n1_1 ρ1_1 c1_1, (if 48 < w1 20 M then f_Re_build_130 w1 (M : Int) hour wo (sl : Int) (k : Int) 0 else f_Re_build_130 w1 (M : Int) hour wo (sl : Int) (k : Int) 1) = some (Sum.inl (w1_1, x41, ((k + 1 : Nat) : Int))) ∧ SB D lv FF RR sl M w1_1 n1_1 ρ1_1 c1_1 ∧ EvB D lv sl M w n ρ c w1_1 n1_1 ρ1_1 c1_1 ∧ ((x41 = 1 ∧ n1_1 ≤ 48) ∨ (x41 = 0 ∧ n1_1 = 49)) ∧ (FcB w hour wo k → lv (r : Int) = sl → ∃ k', AM n1_1 ρ1_1 c1_1 (r : Int) k' ∧ le D (r : Int) kc k')
            rw [h20]
            unfold f_Re_build_130
            by_cases h48 : n1 ≤ 48
            · rw [if_neg (by omega), c132]
              exact ⟨w1, 1, n1, ρ1, c1, rfl, hSB1, hEv1, Or.inl ⟨rfl, h48⟩, fun _ _ => hcv⟩
            · rw [if_pos (by omega), c132]
              exact ⟨w1, 0, n1, ρ1, c1, rfl, hSB1, hEv1, Or.inr ⟨rfl, by omega⟩, fun _ _ => hcv⟩
        · rw [if_neg (by omega), c132]
          exact ⟨w, x4, n, ρ, c, rfl, hSB, EvB.refl, hx, fun _ h => absurd h hl⟩
      obtain ⟨w1, x41, n1, ρ1, c1, er, hSB1, hEv1, hx1, hcv1⟩ := one
      obtain ⟨w', x4', n', ρ', c', er', hSB', hEv', hx'⟩ := ih (k + 1) w1 n1 ρ1 c1 x41 (by omega) hSB1 (PrB_congr hEv1.1 hPr) (FaB_congr hEv1.1 hF) (by rw [FFB_congr hEv1.1]; exact hFF) hx1
      refine ⟨w', x4', n', ρ', c', fun z hz => ?_, hSB', hEv1.trans hEv', hx'.imp (fun h => ⟨h.1, h.2.1, fun f h1 h2 r' z hfc hr' hl' hz hz2 => ?_⟩) (fun h => h)⟩
      · rw [← er' z hz]
        unfold f_Re_build_28
        exact lp_step (s := (w, x4, (k : Int))) er
      · by_cases e : f = k
        · subst e
          have e1 : r' = (r : Int) := by rw [← hr', a1]
          subst e1
          have e2 : z = kc := clm_inj hz2 a5 (fun j hj => by have h1 := hz j hj; have h2 := a4 j hj; omega)
          subst e2
          obtain ⟨k1, hk1, hle1⟩ := hcv1 hfc hl'
          obtain ⟨k2, hk2, hle2⟩ := hEv'.cov hk1
          exact ⟨k2, hk2, le_trans' hle1 hle2⟩
        · have e : ∀ c, 2 ≤ c → c < 20 → w1 c = w c := fun c h1 h2 => hEv1.1.cell (by omega) (by omega)
          refine h.2.2 f (by omega) h2 r' z ?_ (by rw [e 7 (by omega) (by omega)]; exact hr') hl' (by rw [e 8 (by omega) (by omega)]; exact hz) hz2
          unfold FcB
          rw [e 12 (by omega) (by omega), e 10 (by omega) (by omega), e 11 (by omega) (by omega)]
          exact hfc
/-- the strata that are made -/
def JB (D : SH) (lv : Int → Nat) (FF : MM) (RR : RU → Prop) (sl M m nF : Nat) (hour wo : Int) (w : World) (n : Nat) (ρ c : Nat → Nat) (x4 : Int) : Prop :=
  SB D lv FF RR sl M w n ρ c ∧ PrB D lv RR m w ∧ PrCB RR m w ∧ FaB nF w ∧ (∀ r k, FFB nF w hour wo r k ↔ FF r k) ∧ ((x4 = 1 ∧ n ≤ 48 ∧ (∀ x, x < n → lv (ρ x) < sl) ∧ ∀ s, s < sl → Closed D lv FF RR (AM n ρ c) s ∧ Snd D lv FF RR (AM n ρ c) s) ∨ (x4 = 0 ∧ n = 49 ∧ OverR D lv FF RR sl (AM n ρ c)))
theorem new_lvB {D : SH} {lv : Int → Nat} {sl M n n' : Nat} {w w' : World} {ρ c ρ' c' : Nat → Nat} (h : EvB D lv sl M w n ρ c w' n' ρ' c') (hB : BMod w' M n' ρ' c') (hD : SA w' = D) {x : Nat} (h1 : n ≤ x) (h2 : x < n') : lv (ρ' x) = sl := by
  refine Classical.byContradiction fun hq => ?_
  obtain ⟨y, hy, hρ, hc⟩ := (h.2.2.2 _ _ hq).mp ⟨x, h2, rfl, rfl⟩
  have h3 := h.2.2.1 y hy
  have h4 : ρ' x = ρ' y := by rw [h3.1]; omega
  have h5 := hB.2.2.2.2 x y h2 (by have := h.2.1; omega) (by omega) h4
  have h6 := h3.2.1
  rw [hD, ← hc] at h5
  have h7 : (ρ' x : Int) = (ρ y : Int) := by rw [h4, h3.1]
  rw [h7, h6] at h5
  exact h5 rfl
theorem levelB_n {D : SH} {lv : Int → Nat} {FF : MM} {RR : RU → Prop} {sl M m nF n : Nat} {hour wo : Int} {w : World} {ρ c : Nat → Nat} (hM : M < 5) (hsl : sl < 10) (h : JB D lv FF RR sl M m nF hour wo w n ρ c 1) :
    ∃ w' n' ρ' c' x4', f_Re_build_13B w (M : Int) hour wo 1 (sl : Int) = some (Sum.inl (w', x4', ((sl + 1 : Nat) : Int))) ∧ JB D lv FF RR (sl + 1) M m nF hour wo w' n' ρ' c' x4' ∧ FrR M w w' := by
  obtain ⟨hSB, hPr, hPc, hF, hFF, hx⟩ := h
  obtain ⟨hn48, hlt, hdone⟩ : n ≤ 48 ∧ (∀ x, x < n → lv (ρ x) < sl) ∧ ∀ s, s < sl → Closed D lv FF RR (AM n ρ c) s ∧ Snd D lv FF RR (AM n ρ c) s := by
    rcases hx with h | h
    · exact h.2
    · exact absurd h.1 (by decide)
  have hL : Lev D lv RR := hPr.2.2.2.2.1
  obtain ⟨w1, x41, n1, ρ1, c1, er1, hSB1, hEv1, hx1⟩ := loop28 (nF := nF) (m := m) hM hsl nF 0 w n ρ c 1 (by omega) hSB hPr hF (fun r k hk => (hFF r k).mp hk) (Or.inl ⟨rfl, hn48⟩)
  obtain ⟨w2, x42, n2, ρ2, c2, er2, hSB2, hEv2, hend⟩ := loop142 (x2 := hour) (x3 := wo) (m := m) hM hsl 6272 w1 n1 ρ1 c1 x41 x41 hSB1 (PrB_congr hEv1.1 hPr) (PrCB_congr hEv1.1 hPc) (fun z => by rcases hx1 with h | h; exact h.2.1; exact absurd h.1 z) (fun z => by rcases hx1 with h | h; omega; exact Or.inr h) (by omega)
  have hEv := hEv1.trans hEv2
  have hag : ∀ s, s ≤ sl → Agb lv s (AM n ρ c) (AM n2 ρ2 c2) := fun s hs q k hq => (hEv.2.2.2 q k (by omega)).symm
  refine ⟨w2, n2, ρ2, c2, x42, ?_, ⟨⟨hSB2.1, hSB2.2.1, hSB2.2.2.1, hSB2.2.2.2.1, ?_, fun x hx => by have := hSB2.2.2.2.2.2.1 x hx; omega, hSB2.2.2.2.2.2.2⟩, PrB_congr hEv.1 hPr, PrCB_congr hEv.1 hPc, FaB_congr hEv.1 hF, by rw [FFB_congr hEv.1]; exact hFF, ?_⟩, hEv.1⟩
  · unfold f_Re_build_13B
    rw [if_neg (by omega), if_neg (by decide)]
    exact er1 _ er2
  · intro M' _ _ _ r k hr hk
    obtain ⟨x, hx, rfl, rfl⟩ := hk
    have := hSB2.2.2.2.2.2.1 x hx
    omega
  · rcases hend with ⟨e1, e2, e3⟩ | ⟨e1, e2⟩
    · refine Or.inl ⟨e1, e2, fun x hx => by have := hSB2.2.2.2.2.2.1 x hx; omega, fun s hs => ?_⟩
      by_cases hs' : s < sl
      · have := hdone s hs'
        exact ⟨closed_congr hL (hag (s + 1) (by omega)) this.1, snd_congr (hag (s + 1) (by omega)) this.2⟩
      · have e' : s = sl := by omega
        subst e'
        refine ⟨cvA_closed (fun r k hf hr => ?_) e3, hSB2.2.2.2.2.1⟩
        obtain ⟨f, hf1, hf2, hf3, hf4, hf5⟩ := (hFF r k).mpr hf
        have hx11 : x41 = 1 ∧ n1 ≤ 48 ∧ _ := hx1.resolve_right (fun h => by have := hEv2.2.1; omega)
        obtain ⟨z, hz, hle⟩ := hx11.2.2 f (by omega) hf1 r k hf2 hf3 hr hf4 hf5
        obtain ⟨z2, hz2, hle2⟩ := hEv2.cov hz
        exact ⟨z2, hz2, le_trans' hle hle2⟩
    · subst e2
      exact Or.inr ⟨e1, rfl, sl, by omega, fun s' hs' => ⟨closed_congr hL (hag (s' + 1) (by omega)) (hdone s' hs').1, snd_congr (hag (s' + 1) (by omega)) (hdone s' hs').2⟩, SB_over hSB2⟩
theorem levelsB_n {D : SH} {lv : Int → Nat} {FF : MM} {RR : RU → Prop} {M m nF : Nat} {hour wo : Int} (hM : M < 5) : ∀ (j sl : Nat) (w : World) (n : Nat) (ρ c : Nat → Nat) (x4 : Int), sl + j = 10 → JB D lv FF RR sl M m nF hour wo w n ρ c x4 →
    ∃ w' n' ρ' c' x4' sl', f_Re_build_13 w (M : Int) hour wo x4 (sl : Int) = some (w', x4') ∧ sl' ≤ 10 ∧ JB D lv FF RR sl' M m nF hour wo w' n' ρ' c' x4' ∧ FrR M w w' ∧ (x4' = 1 → sl' = 10) := by
  intro j
  induction j with
  | zero =>
    intro sl w n ρ c x4 hj h
    refine ⟨w, n, ρ, c, x4, sl, ?_, by omega, h, FrR.refl, fun _ => by omega⟩
    have hx4 : x4 = 0 ∨ x4 = 1 := by rcases h.2.2.2.2.2 with z | z; exact Or.inr z.1; exact Or.inl z.1
    unfold f_Re_build_13
    refine lp_out ?_
    show f_Re_build_13B w (M : Int) hour wo x4 (sl : Int) = _
    unfold f_Re_build_13B
    rw [if_pos (by omega), gd_t hx4]
  | succ j ih =>
    intro sl w n ρ c x4 hj h
    rcases h.2.2.2.2.2 with z | z
    · have hx4 := z.1
      subst hx4
      obtain ⟨w1, n1, ρ1, c1, x41, er, h1, hF1⟩ := levelB_n hM (by omega) h
      obtain ⟨w', n', ρ', c', x4', sl', er', hs, h', hF', hx'⟩ := ih (sl + 1) w1 n1 ρ1 c1 x41 (by omega) h1
      refine ⟨w', n', ρ', c', x4', sl', ?_, hs, h', hF1.trans hF', hx'⟩
      rw [← er']
      unfold f_Re_build_13
      exact lp_step (s := (w, (1 : Int), (sl : Int))) er
    · refine ⟨w, n, ρ, c, x4, sl, ?_, by omega, h, FrR.refl, fun e => by omega⟩
      unfold f_Re_build_13
      refine lp_out ?_
      show f_Re_build_13B w (M : Int) hour wo x4 (sl : Int) = _
      unfold f_Re_build_13B
      rw [if_neg (by omega), if_pos z.1, gd_t (Or.inl z.1)]
/-- a model: the least one, or it has too many tuples -/
theorem buildB_n {lv : Int → Nat} {FF : MM} {RR : RU → Prop} {M m nF : Nat} {hour wo : Int} {w : World} (hM : M < 5) (hT : WfT w) (hVB : VB w) (hPr : PrB (SA w) lv RR m w) (hPc : PrCB RR m w) (hF : FaB nF w) (hFF : ∀ r k, FFB nF w hour wo r k ↔ FF r k) (hlt : ∀ q : Nat, q < 10 → lv (q : Int) < 10) :
    ∃ w' v n ρ c, f_Re_build w (M : Int) hour wo = some (w', v) ∧ FrR M w w' ∧ BMod w' M n ρ c ∧ VCs w' n ρ c ∧ VB w' ∧ ((v = 1 ∧ n ≤ 48 ∧ Least (SA w) lv FF RR (AM n ρ c)) ∨ (v = 0 ∧ OverR (SA w) lv FF RR 10 (AM n ρ c))) := by
  obtain ⟨w0, hw0⟩ : ∃ w0, w0 = up w 20 M 0 := ⟨_, rfl⟩
  have f0 : ∀ c0, c0 ≠ 20 → w0 c0 = w c0 := fun c0 h => by rw [hw0]; funext k; simp [up, h]
  have hFr : FrR M w w0 := ⟨fun c k a _ _ _ _ _ _ => by rw [f0 c a], fun k hk => by rw [hw0]; simp [up, hk], fun k _ => by rw [f0 21 (by decide)], fun k _ => by rw [f0 22 (by decide)]⟩
  have hSA : SA w0 = SA w := SA_c5 (fun c a b => f0 c (by omega))
  have hJ : JB (SA w) lv FF RR 0 M m nF hour wo w0 0 (fun _ => 0) (fun _ => 0) 1 := by
    refine ⟨⟨WfT_congr (fun c a b => f0 c (by omega)) hT, hSA, ⟨hM, by rw [hw0]; simp [up], by omega, fun s hs => absurd hs (by omega), fun s s' hs => absurd hs (by omega)⟩, fun s hs => absurd hs (by omega), fun M' _ _ _ r k _ hk => ?_, fun x hx => absurd hx (by omega), fun v hv => by rw [f0 24 (by decide)] at hv; rw [f0 23 (by decide)]; exact hVB v hv⟩, PrB_congr hFr hPr, PrCB_congr hFr hPc, FaB_congr hFr hF, by rw [FFB_congr hFr]; exact hFF, Or.inl ⟨rfl, by omega, fun x hx => absurd hx (by omega), fun s hs => absurd hs (by omega)⟩⟩
    obtain ⟨x, hx, -⟩ := hk
    exact absurd hx (by omega)
  obtain ⟨w', n, ρ, c, x4, sl, er, hsl, h, hFr', hx4⟩ := levelsB_n hM 10 0 w0 0 _ _ 1 (by omega) hJ
  obtain ⟨hSB, hPr', hPc', hF', hFF', hx⟩ := h
  refine ⟨w', x4, n, ρ, c, ?_, hFr.trans hFr', hSB.2.2.1, hSB.2.2.2.1, hSB.2.2.2.2.2.2, hx.imp (fun z => ⟨z.1, z.2.1, by rw [← hSB.2.1]; exact BMod_OkM hSB.2.2.1, fun s => ?_⟩) (fun z => ⟨z.1, ?_⟩)⟩
  · unfold f_Re_build
    rw [gd_t ⟨by omega, by omega⟩, bl_s, Int.toNat_natCast, ← hw0]
    exact er
  · have e10 := hx4 z.1
    subst e10
    by_cases hs : s < 10
    · exact z.2.2.2 s hs
    · refine ⟨⟨fun r k hf hr => ?_, fun R hR hr σ _ => ?_⟩, fun M' _ _ _ r k hr hk => ?_⟩
      · exfalso
        obtain ⟨f, hf1, hf2, hf3, -⟩ := (hFF r k).mpr hf
        obtain ⟨r', k', a1, a2, -⟩ := hF.2.2 f hf1
        have := hlt r' a2
        rw [← a1, hf3] at this
        omega
      · exfalso
        obtain ⟨i, hi, h1, h2⟩ := hPc R hR
        obtain ⟨-, ⟨r', a1, a2⟩, -⟩ := hPr.2.2.2.2.2 i hi
        rw [h2] at a2
        have := hlt r' a1
        rw [← a2] at this
        omega
      · obtain ⟨x, hx, rfl, rfl⟩ := hk
        have := z.2.2.1 x hx
        omega
  · obtain ⟨s, hs, h1, h2⟩ := z.2.2
    exact ⟨s, by omega, h1, h2⟩
