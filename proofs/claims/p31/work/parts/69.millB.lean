/-! THE CLASS'S MILL: facts are loaded; strata one by one -/
def FaW (nF : Nat) (w : World) : Prop := w 7 0 = (nF : Int) ∧ nF ≤ 24 ∧ ∀ f, f < nF → ∃ r k : Nat, w 8 f = (r : Int) ∧ r < 10 ∧ 1 ≤ w 3 r ∧ w 9 f = (k : Int) ∧ k < 2097152 ∧ Vc w r k
def FaC (w : World) (hour wo : Int) (f : Nat) : Prop := w 13 f = 0 ∧ w 11 f ≤ hour ∧ hour ≤ w 12 f ∧ iand (ishr wo (f : Int)) 1 = 0
def FFA (nF : Nat) (w : World) (hour wo : Int) : MM := fun r k => ∃ f, f < nF ∧ FaC w hour wo f ∧ w 8 f = r ∧ w 9 f = (k : Int)
theorem FaW_congr {nF : Nat} {w w' : World} (h : ∀ c, c < 98 → w' c = w c) (hF : FaW nF w) : FaW nF w' := by
  obtain ⟨h1, h2, h3⟩ := hF
  refine ⟨by rw [h 7 (by omega)]; exact h1, h2, fun f hf => ?_⟩
  obtain ⟨r, k, a1, a2, a3, a4, a5, a6⟩ := h3 f hf
  refine ⟨r, k, by rw [h 8 (by omega)]; exact a1, a2, by rw [h 3 (by omega)]; exact a3, by rw [h 9 (by omega)]; exact a4, a5, ?_⟩
  unfold Vc
  rw [h 3 (by omega)]
  exact a6
theorem FaC_congr {w w' : World} (h : ∀ c, c < 98 → w' c = w c) {hour wo : Int} {f : Nat} : FaC w' hour wo f ↔ FaC w hour wo f := by
  unfold FaC
  rw [h 13 (by omega), h 11 (by omega), h 12 (by omega)]
theorem FFA_congr {nF : Nat} {w w' : World} (h : ∀ c, c < 98 → w' c = w c) {hour wo : Int} : FFA nF w' hour wo = FFA nF w hour wo := by
  unfold FFA
  funext r k
  refine propext (exists_congr fun f => and_congr Iff.rfl (and_congr (FaC_congr h) ?_))
  rw [h 8 (by omega), h 9 (by omega)]
theorem isFact_n {nF f : Nat} {w : World} (h : w 7 0 = (nF : Int)) (h24 : nF ≤ 24) (hf : f < nF) : f_Fa_isFact w (f : Int) = some 1 := by
  unfold f_Fa_isFact
  rw [if_neg (by omega), if_neg (by omega), if_neg (by omega)]
theorem relationOf_n {nF f : Nat} {w : World} (h : w 7 0 = (nF : Int)) (h24 : nF ≤ 24) (hf : f < nF) : f_Fa_relationOf w (f : Int) = some (w 8 f) := by
  unfold f_Fa_relationOf
  rw [isFact_n h h24 hf, bnd_s, if_neg (by decide), gd_t ⟨by omega, by omega⟩, Int.toNat_natCast]
theorem factCode_n {nF f : Nat} {w : World} (h : w 7 0 = (nF : Int)) (h24 : nF ≤ 24) (hf : f < nF) : f_Fa_codeOf w (f : Int) = some (w 9 f) := by
  unfold f_Fa_codeOf
  rw [isFact_n h h24 hf, bnd_s, if_neg (by decide), gd_t ⟨by omega, by omega⟩, Int.toNat_natCast]
theorem holdsIn_n {nF f : Nat} {w : World} {hour : Int} (h : w 7 0 = (nF : Int)) (h24 : nF ≤ 24) (hf : f < nF) : ∃ v, f_Fa_holdsIn w (f : Int) hour = some v ∧ (v = 0 ∨ v = 1) ∧ (v = 1 ↔ w 13 f = 0 ∧ w 11 f ≤ hour ∧ hour ≤ w 12 f) := by
  unfold f_Fa_holdsIn
  rw [isFact_n h h24 hf, bnd_s, if_neg (by decide), gd_t ⟨by omega, by omega⟩, Int.toNat_natCast]
  by_cases h1 : w 13 f = 0
  · rw [if_pos h1, gd_t ⟨by omega, by omega⟩]
    by_cases h2 : hour < w 11 f
    · rw [if_pos h2]
      exact ⟨0, rfl, Or.inl rfl, ⟨fun e => (by cases e), fun e => (by omega)⟩⟩
    · rw [if_neg h2, gd_t ⟨by omega, by omega⟩]
      by_cases h3 : w 12 f < hour
      · rw [if_pos h3]
        exact ⟨0, rfl, Or.inl rfl, ⟨fun e => (by cases e), fun e => (by omega)⟩⟩
      · rw [if_neg h3]
        exact ⟨1, rfl, Or.inr rfl, ⟨fun _ => ⟨h1, by omega, by omega⟩, fun _ => rfl⟩⟩
  · rw [if_neg h1]
    exact ⟨0, rfl, Or.inl rfl, ⟨fun e => (by cases e), fun e => absurd e.1 h1⟩⟩
theorem OvB_congr {D : SH} {lv : Int → Nat} {FF : MM} {RR : RU → Prop} {sl : Nat} {M M' : MM} (h : ∀ q k, lv q < sl → (M' q k ↔ M q k)) (hO : OvB D lv FF RR sl M) : OvB D lv FF RR sl M' := fun X hX hg hC => hO X hX (fun q k hq => (h q k hq).symm.trans (hg q k hq)) hC
theorem load79 {w : World} {t : Nat} {x2 x3 x4 : Int} {k : Nat} (hk : k < 100) : f_Mi_load_79 w t x2 x3 x4 (k : Int) = some (Sum.inl (w, ((k + 1 : Nat) : Int))) := by
  unfold f_Mi_load_79
  rw [bl_s, wr_of (x := (k : Int) + 1) ⟨by omega, by omega⟩]
  rfl
theorem load_n {D : SH} {lv : Int → Nat} {FF : MM} {RR : RU → Prop} {sl t m nF : Nat} {rd hour wo : Int} (hkt : kdA t = 6) (hrd : 0 ≤ rd) : ∀ (j k : Nat) (w : World) (N : Nat) (ρ c : Nat → Nat) (L : Nat → List Nat), k + j = nF → LvS D lv FF RR sl t m (rd + 1) rd w N ρ c L → FaW nF w → (∀ r k, FFA nF w hour wo r k → FF r k) →
    ∃ w' N' ρ' c' L', f_Mi_load_3 w t (sl : Int) hour wo (k : Int) = some w' ∧ LvS D lv FF RR sl t m (rd + 1) rd w' N' ρ' c' L' ∧ EvW D lv sl t w N ρ c w' N' ρ' c' ∧ (w t 2 ≠ 0 → w' t 2 ≠ 0) ∧ (w' t 2 = 0 → ∀ f, k ≤ f → f < nF → FaC w hour wo f → lv (w 8 f) = sl → ∃ z, AM N' ρ' c' (w 8 f) z ∧ le D (w 8 f) (w 9 f).toNat z) := by
  intro j
  have h6 := kd6 hkt
  induction j with
  | zero =>
    intro k w N ρ c L hk h hF hFF
    refine ⟨w, N, ρ, c, L, ?_, h, EvW.refl, fun h => h, fun _ f h1 h2 => absurd h2 (by omega)⟩
    unfold f_Mi_load_3
    refine lp_out ?_
    show f_Mi_load_3B w t (sl : Int) hour wo (k : Int) = _
    unfold f_Mi_load_3B
    rw [hF.1, if_pos (by omega)]
  | succ j ih =>
    intro k w N ρ c L hk h hF hFF
    obtain ⟨hF1, hF24, hFf⟩ := id hF
    obtain ⟨r, kd, hr, hr10, hr3, hkd, hkdl, hkV⟩ := hFf k (by omega)
    obtain ⟨v, hv, hv01, hvi⟩ := holdsIn_n (hour := hour) hF1 hF24 (show k < nF by omega)
    have hrel := relationOf_n hF1 hF24 (show k < nF by omega)
    have hcode := factCode_n hF1 hF24 (show k < nF by omega)
    obtain ⟨hSI, hPr, hPc, ho, hr1, hlo⟩ := id h
    have one : ∃ w1 N1 ρ1 c1 L1, f_Mi_load_3B w t (sl : Int) hour wo (k : Int) = some (Sum.inl (w1, ((k + 1 : Nat) : Int))) ∧ LvS D lv FF RR sl t m (rd + 1) rd w1 N1 ρ1 c1 L1 ∧ EvW D lv sl t w N ρ c w1 N1 ρ1 c1 ∧ (w t 2 ≠ 0 → w1 t 2 ≠ 0) ∧ (w1 t 2 = 0 → FaC w hour wo k → lv (w 8 k) = sl → ∃ z, AM N1 ρ1 c1 (w 8 k) z ∧ le D (w 8 k) (w 9 k).toNat z) := by
      unfold f_Mi_load_3B
      rw [hF1, if_neg (by omega), hrel, bnd_s, hv, bnd_s]
      by_cases hv0 : v = 0
      · rw [if_pos hv0, load79 (by omega)]
        exact ⟨w, N, ρ, c, L, rfl, h, EvW.refl, fun h => h, fun _ hc => by
          have := hvi.mpr ⟨hc.1, hc.2.1, hc.2.2.1⟩
          omega⟩
      · rw [if_neg hv0]
        have hv1 := hvi.mp (hv01.resolve_left hv0)
        by_cases hwo : iand (ishr wo (k : Int)) 1 = 0
        · rw [if_pos hwo, hr, levelOf_n hr10, bnd_s, hPr.2.2.2.1 r hr10]
          by_cases hl : lv (r : Int) = sl
          · rw [if_pos (by omega), hcode, bnd_s, hkd]
            obtain ⟨w1, ch, N1, ρ1, c1, L1, nn, etk, hF2, hSI2, hEv2, hIns, hIns2, hoth, hch, hch0, hcv, hov0, hov1⟩ := take_step (rd := 0) hSI hkt hr10 hl hr3 hkdl hkV
              (fun M' hO hg hCl => hCl.1 _ _ (hFF _ _ ⟨k, by omega, ⟨hv1.1, hv1.2.1, hv1.2.2, hwo⟩, hr, hkd⟩) hl)
            have hlow := Evo_low hkt hEv2
            rw [etk, bnd_s]
            show ∃ w1' N1 ρ1 c1 L1, f_Mi_load_79 w1 t (sl : Int) hour wo (k : Int) = some (Sum.inl (w1', ((k + 1 : Nat) : Int))) ∧ _
            refine ⟨w1, N1, ρ1, c1, L1, load79 (by omega), ⟨hSI2, PrW_congr hlow hPr, PrC_congr hPr.2.1 hlow hPc, fun e => ?_, fun x hx => ?_, fun x hx hlx => ?_⟩, hEv2.w, fun e => ?_, fun hf _ _ => ?_⟩
            · by_cases e0 : w t 2 = 0
              · exact hov0 e0 e
              · have := ho e0
                exact ⟨hov1 this.1, OvB_congr (fun q k hq => hEv2.2.2.2.1 q k (by omega)) this.2⟩
            · by_cases q : x < N
              · rcases hEv2.2.2.2.2.1 x with z | z
                · omega
                · rw [z.1]; exact hr1 x q
              · rw [hEv2.2.2.2.2.2.1 x (by omega) hx]; exact hrd
            · by_cases q : x < N
              · rw [(hEv2.2.2.1 x q).1] at hlx
                rw [hEv2.2.2.2.2.2.2 x q (by omega)]
                exact hlo x q hlx
              · have := new_lv hEv2.w hSI2.2.2.1 hSI2.2.1 (show N ≤ x by omega) hx
                omega
            · rw [hov1 (ho e).1]; decide
            · rw [Int.toNat_natCast]
              exact hcv hf
          · rw [if_neg (by omega), load79 (by omega)]
            exact ⟨w, N, ρ, c, L, rfl, h, EvW.refl, fun h => h, fun _ _ e => absurd e hl⟩
        · rw [if_neg hwo, load79 (by omega)]
          exact ⟨w, N, ρ, c, L, rfl, h, EvW.refl, fun h => h, fun _ hc => absurd hc.2.2.2 hwo⟩
    obtain ⟨w1, N1, ρ1, c1, L1, er, h1, hE1, ho1, hcv1⟩ := one
    have hlow : ∀ c0, c0 < 98 → w1 c0 = w c0 := fun c0 hc => hE1.1 c0 (by omega) (by omega)
    obtain ⟨w', N', ρ', c', L', er', h', hE', ho', hcv'⟩ := ih (k + 1) w1 N1 ρ1 c1 L1 (by omega) h1 (FaW_congr hlow hF) (by rw [FFA_congr hlow]; exact hFF)
    refine ⟨w', N', ρ', c', L', ?_, h', hE1.trans hE', fun e => ho' (ho1 e), fun hf f h1 h2 h3 h4 => ?_⟩
    · rw [← er']
      unfold f_Mi_load_3
      exact lp_step (s := (w, (k : Int))) er
    · by_cases e : f = k
      · subst e
        have hf1 : w1 t 2 = 0 := Classical.byContradiction fun q => ho' q hf
        obtain ⟨z, hz, hle⟩ := hcv1 hf1 h3 h4
        obtain ⟨z', hz', hle'⟩ := hE'.cov hz
        exact ⟨z', hz', le_trans' hle hle'⟩
      · have := hcv' hf f (by omega) h2 ((FaC_congr hlow).mpr h3) (by rw [hlow 8 (by omega)]; exact h4)
        rw [hlow 8 (by omega), hlow 9 (by omega)] at this
        exact this
