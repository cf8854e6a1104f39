/-! THE CLASS'S WALK: how many moves; what it means that a literal was taken -/
theorem mvB_5 {F : Nat → Bool} {E : Nat} (hE : E ≤ 5) (h : cnt F E ≤ 3) : mvB F E 0 < 9999999 := by
  have h6 : E = 0 ∨ E = 1 ∨ E = 2 ∨ E = 3 ∨ E = 4 ∨ E = 5 := by omega
  rcases h6 with rfl | rfl | rfl | rfl | rfl | rfl
  · simp [mvB]
  · cases h0 : F 0 <;> simp [mvB, h0]
  · cases h0 : F 0 <;> cases h1 : F 1 <;> simp [mvB, h0, h1]
  · cases h0 : F 0 <;> cases h1 : F 1 <;> cases h2 : F 2 <;> simp [mvB, h0, h1, h2]
  · cases h0 : F 0 <;> cases h1 : F 1 <;> cases h2 : F 2 <;> cases h3 : F 3 <;> simp [mvB, cnt, h0, h1, h2, h3] at h ⊢
  · cases h0 : F 0 <;> cases h1 : F 1 <;> cases h2 : F 2 <;> cases h3 : F 3 <;> cases h4 : F 4 <;> simp [mvB, cnt, h0, h1, h2, h3, h4] at h ⊢
def isP (w : World) (b p : Nat) : Bool := decide (w (b + 1) p = 0)
theorem cnt_isH {w : World} {b E : Nat} (hE : E ≤ 5) (hl : w 103 6 = -1 ∨ (0 ≤ w 103 6 ∧ w 103 6 < (E : Int))) : cnt (isH w b) E = cnt (isP w b) E := by
  have hi : ∀ d, isH w b d = isP w b (pl w d) := fun d => rfl
  have hp := fun d => pl_cases w d
  rcases hl with hl | ⟨h0, h1⟩
  · have : isH w b = isP w b := by
      funext d
      rw [hi]
      have := hp d
      congr 1
      omega
    rw [this]
  · obtain ⟨l, hl⟩ : ∃ l : Nat, w 103 6 = (l : Int) := ⟨(w 103 6).toNat, by omega⟩
    have hpl : ∀ d, pl w d = if l < d then d else if d = 0 then l else d - 1 := fun d => by
      have := hp d
      rw [hl] at this
      split
      · omega
      · split <;> omega
    have h6 : E = 0 ∨ E = 1 ∨ E = 2 ∨ E = 3 ∨ E = 4 ∨ E = 5 := by omega
    have h5 : l = 0 ∨ l = 1 ∨ l = 2 ∨ l = 3 ∨ l = 4 := by omega
    rcases h6 with rfl | rfl | rfl | rfl | rfl | rfl <;> rcases h5 with rfl | rfl | rfl | rfl | rfl <;> first | omega | (simp [cnt, hi, hpl]; try omega)
/-- values as an assignment -/
def sg (vs : Nat → Int) : Nat → Nat := fun v => (vs v).toNat
theorem sg_VA {vs : Nat → Int} (h : VV vs) : VA (sg vs) := fun v => by have := h v; unfold sg; omega
theorem tv_sg {vs : Nat → Int} {t : Int} : tv (sg vs) t = (vl vs t).toNat := by
  unfold tv vl sg
  split <;> rfl
theorem m0_n {x : Int} : m0 x = x.toNat := by unfold m0; omega
theorem tn_sg {w : World} {b p : Nat} {vs : Nat → Int} : tn w b p vs = tc (sg vs) ((RB w b).tm p) := by
  unfold tn tc
  rw [tv_sg, tv_sg, tv_sg, m0_n, m0_n, m0_n]
  rfl
def Ext (v v' : Nat → Int) : Prop := ∀ x, v x ≠ -1 → v' x = v x
theorem Ext.refl {v : Nat → Int} : Ext v v := fun _ _ => rfl
theorem Ext.trans {v v' v'' : Nat → Int} (h : Ext v v') (h' : Ext v' v'') : Ext v v'' := fun x hx => by
  have h1 := h x hx
  rw [h' x (by rw [h1]; exact hx), h1]
/-- all terms of a literal have values -/
def BdP (R : RU) (vs : Nat → Int) (p : Nat) : Prop := ∀ c, c < 3 → 0 ≤ vl vs (R.tm p c)
theorem vl_ext {v v' : Nat → Int} (h : Ext v v') {t : Int} (ht : 0 ≤ vl v t) : vl v' t = vl v t := by
  unfold vl at ht ⊢
  split
  · next hn =>
    rw [if_pos hn] at ht
    exact h _ (by omega)
  · rfl
theorem BdP.ext {R : RU} {v v' : Nat → Int} {p : Nat} (h : Ext v v') (hb : BdP R v p) : BdP R v' p := fun c hc => by rw [vl_ext h (hb c hc)]; exact hb c hc
theorem lit_ext {M : MM} {R : RU} {v v' : Nat → Int} {p : Nat} (h : Ext v v') (hb : BdP R v p) : lit M R (sg v') p ↔ lit M R (sg v) p := by
  have e : ∀ c, c < 3 → tv (sg v') (R.tm p c) = tv (sg v) (R.tm p c) := fun c hc => by rw [tv_sg, tv_sg, vl_ext h (hb c hc)]
  have et : tc (sg v') (R.tm p) = tc (sg v) (R.tm p) := by unfold tc; rw [e 0 (by omega), e 1 (by omega), e 2 (by omega)]
  unfold lit
  rw [et, e 0 (by omega), e 1 (by omega), e 2 (by omega)]
theorem hlit_ext {D : SH} {lv : Int → Nat} {M : MM} {s : Nat} {R : RU} {v v' : Nat → Int} {p : Nat} (h : Ext v v') (hb : BdP R v p) : hlit D lv M s R (sg v') p ↔ hlit D lv M s R (sg v) p := by
  have e : ∀ c, c < 3 → tv (sg v') (R.tm p c) = tv (sg v) (R.tm p c) := fun c hc => by rw [tv_sg, tv_sg, vl_ext h (hb c hc)]
  have et : tc (sg v') (R.tm p) = tc (sg v) (R.tm p) := by unfold tc; rw [e 0 (by omega), e 1 (by omega), e 2 (by omega)]
  unfold hlit
  rw [et]
  by_cases f0 : R.fm p = 0
  · rw [if_pos f0, if_pos f0]
  · rw [if_neg f0, if_neg f0]
    exact lit_ext h hb
/-- unused columns are 0 -/
def Vc (w : World) (r k : Nat) : Prop := ∀ j : Nat, w 3 r ≤ (j : Int) → j < 3 → clm k j = 0
def VCs (w : World) (n : Nat) (ρ c : Nat → Nat) : Prop := ∀ s, s < n → Vc w (ρ s) (c s)
theorem clm_pk {k : Nat} (h : k < 2097152) : pk (clm k 0) (clm k 1) (clm k 2) = k := pkq_cl h
/-- a literal taken: it holds, its terms have values -/
theorem oc_lit {w : World} {b t E N d : Nat} {ρ c : Nat → Nat} {L : Nat → List Nat} {vs : Nat → Int} {s : Nat} {q : (Nat → Int) × Nat} (hC : WkC w b t E N ρ c L) (hVC : VCs w N ρ c) (hd : d < E) (hV : VV vs) (hcov : Cov w b d vs) (hs : s ∈ cnd w b L d) (h : oc w b t N ρ c d vs s = some q) :
    Ext vs q.1 ∧ BdP (RB w b) q.1 (pl w d) ∧ lit (AM N ρ c) (RB w b) (sg q.1) (pl w d) ∧ (w (b + 1) (pl w d) = 0 → s < N ∧ (ρ s : Int) = w (b + 2) (pl w d) ∧ tc (sg q.1) ((RB w b).tm (pl w d)) = c s ∧ timely (w 103 6) (w 103 7) (w (t + 4)) (pl w d) s = true) := by
  have hok := oc_ok hC hd hV hcov h
  have hext : Ext vs q.1 := Bnd_ext hok.2.1
  obtain ⟨v', m'⟩ := q
  obtain ⟨hb, hkb, ht, hkt, hE, hE5, hl, hS, hA, hL, hsafe⟩ := hC
  have hp := pl_lt (w := w) hd hl
  obtain ⟨htm, hfm, hsj⟩ := hL (pl w d) hp
  have hfm' : (RB w b).fm (pl w d) = w (b + 1) (pl w d) := rfl
  have hsjR : (RB w b).sj (pl w d) = w (b + 2) (pl w d) := rfl
  -- terms that need values have them
  have sv : w (b + 1) (pl w d) ≠ 0 → ∀ cc, cc < 3 → (w (b + 1) (pl w d) = 3 → cc ≠ 0) → 0 ≤ vl v' (w (b + 3) (3 * pl w d + cc)) := fun hf cc hcc h3 => by
    by_cases hn : w (b + 3) (3 * pl w d + cc) < 0
    · obtain ⟨j, c', hj, hc', hff, he⟩ := hsafe d hd hf cc hcc h3 hn
      have := hcov j c' hj hc' hff
      rw [he] at this
      rw [vl_ext hext this]
      exact this
    · unfold vl
      rw [if_neg hn]
      omega
  have h' := h
  unfold oc at h
  refine ⟨hext, ?_⟩
  by_cases f0 : w (b + 1) (pl w d) = 0
  · rw [if_pos f0] at h
    obtain ⟨r, hr, hr10, hrd, hz⟩ := hsj (by omega)
    have hS3 := (hS r hr10).1
    rw [hr, Int.toNat_natCast] at h
    unfold cnd at hs
    rw [if_pos f0, hr, Int.toNat_natCast] at hs
    have hsm := (hA.2.2.2.1 r s hr10).mp hs
    have hsl := hA.2.2.2.2.1 s hsm.1
    unfold tO at h
    by_cases hT : timely (w 103 6) (w 103 7) (w (t + 4)) (pl w d) s = true
    · rw [if_pos hT, hsl.2.1, Int.toNat_natCast] at h
      have k2 := mtf_val htm (fun c => clm_lt) _ 0 vs 0 v' m' (by omega) hV h
      have hall : ∀ c', c' < 3 → vl v' (w (b + 3) (3 * pl w d + c')) = ((clm (c s) c' : Nat) : Int) := fun c' hc' => by
        by_cases hcc : c' < (w 3 r).toNat
        · exact k2.2 c' (by omega) (by omega)
        · rw [hz c' hc' (by omega), hVC s hsm.1 c' (by rw [hsm.2]; omega) hc']
          rfl
      have hbd : BdP (RB w b) v' (pl w d) := fun c' hc' => by
        show 0 ≤ vl v' (w (b + 3) (3 * pl w d + c'))
        rw [hall c' hc']
        omega
      have htc : tc (sg v') ((RB w b).tm (pl w d)) = c s := by
        unfold tc
        rw [tv_sg, tv_sg, tv_sg]
        show pk (vl v' (w (b + 3) (3 * pl w d + 0))).toNat (vl v' (w (b + 3) (3 * pl w d + 1))).toNat (vl v' (w (b + 3) (3 * pl w d + 2))).toNat = _
        rw [hall 0 (by omega), hall 1 (by omega), hall 2 (by omega), Int.toNat_natCast, Int.toNat_natCast, Int.toNat_natCast]
        exact clm_pk hsl.2.2.1
      refine ⟨hbd, ?_, fun _ => ⟨hsm.1, by rw [hr, hsm.2], htc, hT⟩⟩
      unfold lit
      rw [hfm', if_pos f0, htc, hsjR]
      exact ⟨s, hsm.1, by rw [hr, hsm.2], rfl⟩
    · rw [if_neg hT] at h
      cases h
  · rw [if_neg f0] at h
    unfold pO at h
    unfold lit
    rw [hfm', if_neg f0]
    by_cases f1 : w (b + 1) (pl w d) = 1
    · rw [if_pos f1] at h
      rw [if_pos f1]
      split at h
      · cases h
      · next hn =>
        cases h
        refine ⟨fun c' hc' => sv f0 c' hc' (fun e => by omega), ?_, fun e => absurd e f0⟩
        rw [← tn_sg]
        exact hn
    · rw [if_neg f1] at h
      rw [if_neg f1]
      have fin : ∀ {v : Nat → Int}, (∀ c', c' < 3 → 0 ≤ vl v (w (b + 3) (3 * pl w d + c'))) → BdP (RB w b) v (pl w d) := fun h c' hc' => h c' hc'
      by_cases f2 : w (b + 1) (pl w d) = 2
      · rw [if_pos f2] at h
        rw [if_pos f2]
        split at h
        · next hc =>
          cases h
          have b0 : 0 ≤ vl vs (w (b + 3) (3 * pl w d)) := sv f0 0 (by omega) (fun e => by omega)
          have b1 := sv f0 1 (by omega) (fun e => by omega)
          refine ⟨fun c' hc' => sv f0 c' hc' (fun e => by omega), ?_, fun e => absurd e f0⟩
          show cmpk (w (b + 2) (pl w d)) (tv (sg vs) (w (b + 3) (3 * pl w d))) (tv (sg vs) (w (b + 3) (3 * pl w d + 1)))
          rw [tv_sg, tv_sg]
          unfold cmpI at hc
          unfold cmpk
          split at hc
          · next e => rw [if_pos e]; omega
          · next e =>
            rw [if_neg e]
            split at hc
            · next e => rw [if_pos e]; omega
            · next e =>
              rw [if_neg e]
              split at hc
              · next e => rw [if_pos e]; omega
              · next e => rw [if_neg e]; omega
        · cases h
      · rw [if_neg f2] at h
        rw [if_neg f2]
        have f3 : w (b + 1) (pl w d) = 3 := by omega
        have s1 := sv f0 1 (by omega) (fun _ => by omega)
        have s2 := sv f0 2 (by omega) (fun _ => by omega)
        have hc0 := hok.2.2 d 0 (by omega) (by omega) (Or.inr ⟨f3, rfl⟩)
        rw [Nat.add_zero (3 * pl w d)] at hc0
        have old1 : vl v' (w (b + 3) (3 * pl w d + 1)) = vl vs (w (b + 3) (3 * pl w d + 1)) ∧ vl v' (w (b + 3) (3 * pl w d + 2)) = vl vs (w (b + 3) (3 * pl w d + 2)) := by
          have sv' : ∀ cc, cc = 1 ∨ cc = 2 → 0 ≤ vl vs (w (b + 3) (3 * pl w d + cc)) := fun cc hcc => by
            by_cases hn : w (b + 3) (3 * pl w d + cc) < 0
            · obtain ⟨j, c', hj, hc', hff, he⟩ := hsafe d hd f0 cc (by omega) (fun _ => by omega) hn
              have := hcov j c' hj hc' hff
              rw [he] at this
              exact this
            · unfold vl
              rw [if_neg hn]
              omega
          exact ⟨vl_ext hext (sv' 1 (Or.inl rfl)), vl_ext hext (sv' 2 (Or.inr rfl))⟩
        have heq : vl v' (w (b + 3) (3 * pl w d)) = min 127 (vl v' (w (b + 3) (3 * pl w d + 1)) + vl v' (w (b + 3) (3 * pl w d + 2))) := by
          rw [old1.1, old1.2]
          by_cases h1 : vl vs (w (b + 3) (3 * pl w d)) = -1
          · rw [if_pos h1] at h
            have hneg : w (b + 3) (3 * pl w d) < 0 := by
              refine Classical.byContradiction fun hn => ?_
              unfold vl at h1
              rw [if_neg hn] at h1
              omega
            have hv : vs (-1 - w (b + 3) (3 * pl w d)).toNat = -1 := by unfold vl at h1; rw [if_pos hneg] at h1; exact h1
            cases h
            show vl (bd _ _ _) _ = _
            unfold bd
            rw [if_pos ⟨hneg, hv⟩]
            show vl (upn _ _ _) _ = _
            unfold vl
            rw [if_pos hneg, upn_eq]
          · rw [if_neg h1] at h
            split at h
            · next h4 => cases h; exact h4
            · cases h
        refine ⟨fun c' hc' => ?_, ?_, fun e => absurd e f0⟩
        · have : c' = 0 ∨ c' = 1 ∨ c' = 2 := by omega
          rcases this with rfl | rfl | rfl
          · exact hc0
          · exact s1
          · exact s2
        · show tv (sg v') (w (b + 3) (3 * pl w d)) = min 127 (tv (sg v') (w (b + 3) (3 * pl w d + 1)) + tv (sg v') (w (b + 3) (3 * pl w d + 2)))
          rw [tv_sg, tv_sg, tv_sg]
          omega
