/-! THE CLASS'S MILL: a model is made -/
theorem reset_n {w : World} {t : Nat} : ∃ w0, f_Mo_reset w t = some w0 ∧ w0 t 1 = 0 ∧ w0 t 2 = 0 ∧ (∀ r, r < 10 → w0 (t + 1) r = -1) ∧ ∀ c, c ≠ t → c ≠ t + 1 → w0 c = w c := by
  let g : Nat → World := fun i => fun c k => if c = t + 1 ∧ k < i then -1 else up (up w t 1 0) t 2 0 c k
  have h := lp_go (F := fun z : (World × Int) => f_Mo_reset_12B z.1 t z.2) (fun i => (g i, (i : Int))) (g 10) 10 (fun i hi => by
    show f_Mo_reset_12B (g i) t (i : Int) = some (Sum.inl (g (i + 1), ((i + 1 : Nat) : Int)))
    unfold f_Mo_reset_12B
    rw [if_neg (by omega), gd_t ⟨by omega, by omega⟩, bl_s, bl_s, wr_of (x := (i : Int) + 1) ⟨by omega, by omega⟩, Int.toNat_natCast]
    have e : up (g i) (t + 1) i (-1) = g (i + 1) := by
      funext c k
      show (if c = t + 1 ∧ k = i then -1 else g i c k) = _
      show (if c = t + 1 ∧ k = i then -1 else if c = t + 1 ∧ k < i then -1 else up (up w t 1 0) t 2 0 c k) = if c = t + 1 ∧ k < i + 1 then -1 else up (up w t 1 0) t 2 0 c k
      by_cases q : c = t + 1
      · by_cases q1 : k = i
        · rw [if_pos ⟨q, q1⟩, if_pos ⟨q, by omega⟩]
        · by_cases q2 : k < i
          · rw [if_neg (fun z => q1 z.2), if_pos ⟨q, q2⟩, if_pos ⟨q, by omega⟩]
          · rw [if_neg (fun z => q1 z.2), if_neg (fun z => q2 z.2), if_neg (fun z => q2 (by omega))]
      · rw [if_neg (fun z => q z.1), if_neg (fun z => q z.1), if_neg (fun z => q z.1)]
    rw [e]
    rfl) (by
    show f_Mo_reset_12B (g 10) t ((10 : Nat) : Int) = _
    unfold f_Mo_reset_12B
    rw [if_pos (by decide)])
  have e0 : g 0 = up (up w t 1 0) t 2 0 := by
    funext c k
    show (if c = t + 1 ∧ k < 0 then -1 else _) = _
    rw [if_neg (fun z => by omega)]
  have h : lp (fun z : (World × Int) => f_Mo_reset_12B z.1 t z.2) (g 0, ((0 : Nat) : Int)) = some (g 10) := h
  rw [e0] at h
  refine ⟨g 10, ?_, ?_, ?_, fun r hr => ?_, fun c h1 h2 => ?_⟩
  · unfold f_Mo_reset f_Mo_reset_12
    rw [bl_s, bl_s]
    exact h
  · show (if t = t + 1 ∧ 1 < 10 then (-1 : Int) else up (up w t 1 0) t 2 0 t 1) = 0
    rw [if_neg (fun z => by omega)]
    simp [up]
  · show (if t = t + 1 ∧ 2 < 10 then (-1 : Int) else up (up w t 1 0) t 2 0 t 2) = 0
    rw [if_neg (fun z => by omega)]
    simp [up]
  · show (if t + 1 = t + 1 ∧ r < 10 then (-1 : Int) else _) = -1
    rw [if_pos ⟨rfl, hr⟩]
  · funext k
    show (if c = t + 1 ∧ k < 10 then (-1 : Int) else up (up w t 1 0) t 2 0 c k) = w c k
    rw [if_neg (fun z => h2 z.1)]
    simp [up, h1]
/-- too many tuples: the strata ahead are made, this one has too many -/
def OverR (D : SH) (lv : Int → Nat) (FF : MM) (RR : RU → Prop) (sl : Nat) (M : MM) : Prop := ∃ s, s ≤ sl ∧ (∀ s', s' < s → Closed D lv FF RR M s' ∧ Snd D lv FF RR M s') ∧ OvB D lv FF RR s M
theorem cvA_closed {D : SH} {lv : Int → Nat} {FF : MM} {RR : RU → Prop} {sl N : Nat} {ρ c : Nat → Nat} (hf : ∀ r n, FF r n → lv r = sl → ∃ m, AM N ρ c r m ∧ le D r n m) (h : CvA D lv RR sl N ρ c) : Closed D lv FF RR (AM N ρ c) sl := by
  refine ⟨hf, fun R hR hs σ hS => ?_⟩
  have hx : ∀ q, ∃ x, q < R.ln → R.fm q = 0 → x < N ∧ (ρ x : Int) = R.sj q ∧ c x = tc σ (R.tm q) := fun q => by
    by_cases h1 : q < R.ln ∧ R.fm q = 0
    · have h2 := hS.2 q h1.1
      unfold lit at h2
      rw [if_pos h1.2] at h2
      obtain ⟨x, a, b, d⟩ := h2
      exact ⟨x, fun _ _ => ⟨a, b, d⟩⟩
    · exact ⟨0, fun a b => absurd ⟨a, b⟩ h1⟩
  exact h R hR hs σ (fun q => (hx q).choose) ⟨hS.1, hS.2, fun q hq f0 => (hx q).choose_spec hq f0⟩
/-- the strata that are made -/
def LvJ (D : SH) (lv : Int → Nat) (FF : MM) (RR : RU → Prop) (sl t m : Nat) (rd : Int) (w : World) (N : Nat) (ρ c : Nat → Nat) (L : Nat → List Nat) : Prop :=
  LvS D lv FF RR sl t m (rd + 1) rd w N ρ c L ∧ (∀ x, x < N → lv (ρ x) < sl) ∧ (w t 2 = 0 → ∀ s, s < sl → Closed D lv FF RR (AM N ρ c) s ∧ Snd D lv FF RR (AM N ρ c) s) ∧ (w t 2 ≠ 0 → OverR D lv FF RR sl (AM N ρ c))
theorem level_n {D : SH} {lv : Int → Nat} {FF : MM} {RR : RU → Prop} {sl t m nF top N : Nat} {rd hour wo x4 : Int} {w : World} {ρ c : Nat → Nat} {L : Nat → List Nat} (hkt : kdA t = 6) (hrd : 0 ≤ rd ∧ rd < 100000) (hF : FaW nF w) (hFF : ∀ r k, FFA nF w hour wo r k ↔ FF r k) (htop : w 14 7 = (top : Int)) (hsl : sl ≤ top) (h10 : sl < 10) (h : LvJ D lv FF RR sl t m rd w N ρ c L) :
    ∃ w' rd' N' ρ' c' L', f_Mi_build_10B w t hour wo x4 rd (sl : Int) = some (Sum.inl (w', rd', ((sl + 1 : Nat) : Int))) ∧ LvJ D lv FF RR (sl + 1) t m rd' w' N' ρ' c' L' ∧ rd ≤ rd' ∧ rd' ≤ rd + 6146 ∧ (∀ c0, ¬ (t ≤ c0 ∧ c0 ≤ t + 4) → ¬ (103 ≤ c0 ∧ c0 ≤ 106) → w' c0 = w c0) := by
  have h6 := kd6 hkt
  obtain ⟨hS, hnx, hdone, hov⟩ := h
  obtain ⟨w1, N1, ρ1, c1, L1, er1, h1, hE1, ho1, hcv1⟩ := load_n (hour := hour) (wo := wo) hkt hrd.1 nF 0 w N ρ c L (by omega) hS hF (fun r k hk => (hFF r k).mp hk)
  have hL : Lev D lv RR := hS.2.1.2.2.2.2.2.1
  obtain ⟨w2, x52, N2, ρ2, c2, L2, er2, h2, hE2, h52, hp2, hc2, ho2⟩ := LvS_sweep (x4 := 1) hkt (by omega) h1 (fun e => by cases e) (fun e => by cases e)
  obtain ⟨w3, rd3, N3, ρ3, c3, L3, er3, h3, hE3, hr31, hr32, hc3, ho3⟩ := loop56 (x2 := hour) (x3 := wo) (x4 := x4) hkt 6144 w2 N2 ρ2 c2 L2 (rd + 1) 0 x52 h2 (by omega) (Int.le_refl _) (by omega) hc2 (by omega) (by omega)
  have hE := hE1.trans (hE2.trans hE3)
  have hag : ∀ s, s < sl → Agb lv (s + 1) (AM N ρ c) (AM N3 ρ3 c3) := fun s hs q k hq => (hE.2.2.2.1 q k (by omega)).symm
  refine ⟨w3, rd3, N3, ρ3, c3, L3, ?_, ⟨⟨⟨h3.1.1, h3.1.2.1, h3.1.2.2.1, h3.1.2.2.2.1, h3.1.2.2.2.2.1, ?_, fun x hx => by have := h3.1.2.2.2.2.2.2 x hx; omega⟩, h3.2.1, h3.2.2.1, fun e => ?_, h3.2.2.2.2.1, fun x hx _ => by have := h3.2.2.2.2.1 x hx; omega⟩, fun x hx => by have := h3.1.2.2.2.2.2.2 x hx; omega, fun e s hs => ?_, fun e => ?_⟩, by omega, by omega, hE.1⟩
  · unfold f_Mi_build_10B
    rw [htop, if_neg (by omega), if_neg (by omega)]
    unfold f_Mi_load
    have er1 : f_Mi_load_3 w t (sl : Int) hour wo 0 = some w1 := er1
    have er3 : f_Mi_build_56 w2 t hour wo x4 (rd + 1) (sl : Int) x52 0 = some (Sum.inl (w3, rd3, wr ((sl : Int) + 1))) := er3
    rw [er1, bnd_s, bl_s, wr_of (x := rd + 1) ⟨by omega, by omega⟩, er2, bnd_s, er3, wr_of (x := (sl : Int) + 1) ⟨by omega, by omega⟩]
    rfl
  · intro M' _ _ _ r n hr hn
    obtain ⟨x, hx, rfl, rfl⟩ := hn
    have := h3.1.2.2.2.2.2.2 x hx
    omega
  · have := h3.2.2.2.1 e
    exact ⟨this.1, fun X hX hg hC => this.2 X hX (agb_le hg (by omega)) hC⟩
  · have hoA : w t 2 = 0 := Classical.byContradiction fun q => ho3 (ho2 (ho1 q)) e
    have hoB : w1 t 2 = 0 := Classical.byContradiction fun q => ho3 (ho2 q) e
    by_cases hs' : s < sl
    · have := hdone hoA s hs'
      exact ⟨closed_congr hL (hag s hs') this.1, snd_congr (hag s hs') this.2⟩
    · have e' : s = sl := by omega
      subst e'
      refine ⟨cvA_closed (fun r n hf hr => ?_) (hc3 e), h3.1.2.2.2.2.2.1⟩
      obtain ⟨f, hf1, hf2, hf3, hf4⟩ := (hFF r n).mpr hf
      obtain ⟨z, hz, hle⟩ := hcv1 hoB f (by omega) hf1 hf2 (by rw [hf3]; exact hr)
      rw [hf3] at hz hle
      rw [hf4, Int.toNat_natCast] at hle
      obtain ⟨z2, hz2, hle2⟩ := (hE2.trans hE3).cov hz
      exact ⟨z2, hz2, le_trans' hle hle2⟩
  · by_cases hoA : w t 2 = 0
    · exact ⟨sl, by omega, fun s' hs' => ⟨closed_congr hL (hag s' hs') (hdone hoA s' hs').1, snd_congr (hag s' hs') (hdone hoA s' hs').2⟩, (h3.2.2.2.1 e).2⟩
    · obtain ⟨s, hs, hd, ho⟩ := hov hoA
      exact ⟨s, by omega, fun s' hs' => ⟨closed_congr hL (hag s' (by omega)) (hd s' hs').1, snd_congr (hag s' (by omega)) (hd s' hs').2⟩, OvB_congr (fun q k hq => hE.2.2.2.1 q k (by omega)) ho⟩
theorem levels_n {D : SH} {lv : Int → Nat} {FF : MM} {RR : RU → Prop} {t m nF top : Nat} {hour wo x4 : Int} (hkt : kdA t = 6) : ∀ (j sl : Nat) (w : World) (N : Nat) (ρ c : Nat → Nat) (L : Nat → List Nat) (rd : Int), sl + j = top + 1 → top < 10 → w 14 7 = (top : Int) → 0 ≤ rd → rd ≤ 6146 * sl → FaW nF w → (∀ r k, FFA nF w hour wo r k ↔ FF r k) → LvJ D lv FF RR sl t m rd w N ρ c L →
    ∃ w' rd' N' ρ' c' L', f_Mi_build_10 w t hour wo x4 rd (sl : Int) = some w' ∧ LvJ D lv FF RR (top + 1) t m rd' w' N' ρ' c' L' ∧ (∀ c0, ¬ (t ≤ c0 ∧ c0 ≤ t + 4) → ¬ (103 ≤ c0 ∧ c0 ≤ 106) → w' c0 = w c0) := by
  have h6 := kd6 hkt
  intro j
  induction j with
  | zero =>
    intro sl w N ρ c L rd hj h10 htop hrd hrd2 hF hFF h
    have e : sl = top + 1 := by omega
    subst e
    refine ⟨w, rd, N, ρ, c, L, ?_, h, fun _ _ _ => rfl⟩
    unfold f_Mi_build_10
    refine lp_out ?_
    show f_Mi_build_10B w t hour wo x4 rd ((top + 1 : Nat) : Int) = _
    unfold f_Mi_build_10B
    rw [htop, if_pos (by omega)]
  | succ j ih =>
    intro sl w N ρ c L rd hj h10 htop hrd hrd2 hF hFF h
    obtain ⟨w1, rd1, N1, ρ1, c1, L1, er, h1, hr1, hr2, hfr⟩ := level_n (x4 := x4) hkt (by omega) hF hFF htop (by omega) (by omega) h
    have hlow : ∀ c0, c0 < 98 → w1 c0 = w c0 := fun c0 hc => hfr c0 (by omega) (by omega)
    obtain ⟨w', rd', N', ρ', c', L', er', h', hfr'⟩ := ih (sl + 1) w1 N1 ρ1 c1 L1 rd1 (by omega) h10 (by rw [hlow 14 (by omega)]; exact htop) (by omega) (by omega) (FaW_congr hlow hF) (by rw [FFA_congr hlow]; exact hFF) h1
    refine ⟨w', rd', N', ρ', c', L', ?_, h', fun c0 a b => (hfr' c0 a b).trans (hfr c0 a b)⟩
    rw [← er']
    unfold f_Mi_build_10
    exact lp_step (s := (w, rd, (sl : Int))) er
/-- a model: the least one, or it has too many tuples -/
theorem build_n {lv : Int → Nat} {FF : MM} {RR : RU → Prop} {t m nF top : Nat} {hour wo x4 : Int} {w : World} (hkt : kdA t = 6) (hS : WfS w) (hVV : VV (w 104)) (hPr : PrW (SA w) lv RR m w) (hPc : PrC RR m w) (hF : FaW nF w) (hFF : ∀ r k, FFA nF w hour wo r k ↔ FF r k) (htop : w 14 7 = (top : Int)) (h10 : top < 10) (hlt : ∀ q : Nat, q < 10 → lv (q : Int) ≤ top) :
    ∃ w' N ρ c L, f_Mi_build w t hour wo x4 = some w' ∧ AMod w' t N ρ c L ∧ VCs w' N ρ c ∧ VV (w' 104) ∧ (∀ c0, ¬ (t ≤ c0 ∧ c0 ≤ t + 4) → ¬ (103 ≤ c0 ∧ c0 ≤ 106) → w' c0 = w c0) ∧ (w' t 2 = 0 ∨ w' t 2 = 1) ∧ (w' t 2 = 0 → Least (SA w) lv FF RR (AM N ρ c)) ∧ (w' t 2 ≠ 0 → OverR (SA w) lv FF RR (top + 1) (AM N ρ c)) := by
  have h6 := kd6 hkt
  obtain ⟨w0, e0, z1, z2, z3, z4⟩ := reset_n (w := w) (t := t)
  have hlow : ∀ c0, c0 < 98 → w0 c0 = w c0 := fun c0 hc => z4 c0 (by omega) (by omega)
  have hSA : SA w0 = SA w := SA_congr (fun c a b k => by rw [hlow c (by omega)])
  have hA0 : AMod w0 t 0 (fun _ => 0) (fun _ => 0) (fun _ => []) := by
    refine ⟨by rw [z1]; rfl, by omega, fun r hr => z3 r hr, fun r s hr => ⟨fun h => (by cases h), fun h => absurd h.1 (by omega)⟩, fun s hs => absurd hs (by omega), fun r hr => List.Pairwise.nil⟩
  have hJ : LvJ (SA w) lv FF RR 0 t m 0 w0 0 (fun _ => 0) (fun _ => 0) (fun _ => []) := by
    refine ⟨⟨⟨WfS_congr (fun c a b k => by rw [hlow c (by omega)]) hS, hSA, hA0, fun s hs => absurd hs (by omega), by rw [z4 104 (by omega) (by omega)]; exact hVV, fun M' _ _ _ r n _ hn => ?_, fun x hx => absurd hx (by omega)⟩, PrW_congr hlow hPr, PrC_congr hPr.2.1 hlow hPc, fun e => absurd z2 e, fun x hx => absurd hx (by omega), fun x hx => absurd hx (by omega)⟩, fun x hx => absurd hx (by omega), fun _ s hs => absurd hs (by omega), fun e => absurd z2 e⟩
    obtain ⟨x, hx, -⟩ := hn
    exact absurd hx (by omega)
  obtain ⟨w', rd', N, ρ, c, L, er, h, hfr⟩ := levels_n (x4 := x4) hkt (top + 1) 0 w0 0 _ _ _ 0 (by omega) h10 (by rw [hlow 14 (by omega)]; exact htop) (Int.le_refl _) (by omega) (FaW_congr hlow hF) (by rw [FFA_congr hlow]; exact hFF) hJ
  obtain ⟨⟨hSI, hPr', hPc', ho, -, -⟩, hnx, hdone, hov⟩ := h
  refine ⟨w', N, ρ, c, L, ?_, hSI.2.2.1, hSI.2.2.2.1, hSI.2.2.2.2.1, fun c0 a b => (hfr c0 a b).trans (z4 c0 (by omega) (by omega)), ?_, fun e => ⟨by rw [← hSI.2.1]; exact AM_OkM hSI.2.2.1, fun s => ?_⟩, hov⟩
  · unfold f_Mi_build
    rw [e0, bnd_s]
    exact er
  · by_cases q : w' t 2 = 0
    · exact Or.inl q
    · exact Or.inr (ho q).1
  · by_cases hs : s < top + 1
    · exact hdone e s hs
    · refine ⟨⟨fun r n hf hr => ?_, fun R hR hr σ _ => ?_⟩, fun M' _ _ _ r n hr hn => ?_⟩
      · exfalso
        obtain ⟨f, hf1, hf2, hf3, hf4⟩ := (hFF r n).mpr hf
        obtain ⟨r', k', a1, a2, -⟩ := hF.2.2 f hf1
        have := hlt r' a2
        rw [← a1, hf3] at this
        omega
      · exfalso
        obtain ⟨i, hi, h1, h2⟩ := hPc R hR
        obtain ⟨-, -, -, -, r', a1, a2⟩ := (hPr.2.2.2.2.2.2 i hi).2 h1
        rw [h2] at a2
        have := hlt r' a1
        rw [← a2] at this
        omega
      · obtain ⟨x, hx, rfl, rfl⟩ := hn
        have := hnx x hx
        omega
