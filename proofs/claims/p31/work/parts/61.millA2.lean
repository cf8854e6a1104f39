/-! THE CLASS'S MILL: what is known of an assignment when its head is taken -/
/-- what is known of a literal that was taken -/
def QA (D : SH) (lv : Int → Nat) (sl b E : Nat) (w : World) (N : Nat) (ρ c : Nat → Nat) : QQ := fun d vs _ cur => d < E ∧ Ext vs cur ∧ BdP (RB w b) cur (pl w d) ∧ hlit D lv (AM N ρ c) sl (RB w b) (sg cur) (pl w d)
theorem lit_hlit {D : SH} {lv : Int → Nat} {M : MM} {sl : Nat} {R : RU} {σ : Nat → Nat} {p : Nat} (h : lit M R σ p) : hlit D lv M sl R σ p := by
  unfold hlit
  by_cases f0 : R.fm p = 0
  · rw [if_pos f0]
    unfold lit at h
    rw [if_pos f0] at h
    split
    · exact h
    · exact ⟨_, h, le_rfl⟩
  · rw [if_neg f0]; exact h
theorem QA_ok {D : SH} {lv : Int → Nat} {sl : Nat} {w : World} {b t E N : Nat} {ρ c : Nat → Nat} {L : Nat → List Nat} (hC : WkC w b t E N ρ c L) (hVC : VCs w N ρ c) : ∀ d vs s q, d < E → VV vs → Cov w b d vs → s ∈ cnd w b L d → oc w b t N ρ c d vs s = some q → QA D lv sl b E w N ρ c d vs s q.1 := fun d vs s q hd hV hcov hs h => by
  have := oc_lit hC hVC hd hV hcov hs h
  exact ⟨hd, this.1, this.2.1, lit_hlit this.2.2.1⟩
theorem pl_onto {w : World} {E p : Nat} (hl : w 103 6 = -1 ∨ (0 ≤ w 103 6 ∧ w 103 6 < (E : Int))) (hp : p < E) : ∃ d, d < E ∧ pl w d = p := by
  rcases hl with hl | ⟨h0, h1⟩
  · refine ⟨p, hp, ?_⟩
    have := pl_cases w p
    omega
  · by_cases e : (p : Int) = w 103 6
    · refine ⟨0, by omega, ?_⟩
      have := pl_cases w 0
      omega
    · by_cases e2 : (p : Int) < w 103 6
      · refine ⟨p + 1, by omega, ?_⟩
        have := pl_cases w (p + 1)
        omega
      · refine ⟨p, hp, ?_⟩
        have := pl_cases w p
        omega
theorem StO_Q {D : SH} {lv : Int → Nat} {sl : Nat} {w0 w : World} {b E N : Nat} {ρ c : Nat → Nat} {L : Nat → List Nat} : ∀ (st : List FRM) (cur : Nat → Int), StO w0 b L (QA D lv sl b E w0 N ρ c) w st cur → ∀ d, d < st.length → BdP (RB w0 b) cur (pl w0 d) ∧ hlit D lv (AM N ρ c) sl (RB w0 b) (sg cur) (pl w0 d) := by
  intro st
  induction st with
  | nil => intro cur _ d hd; exact absurd hd (by simp)
  | cons f st ih =>
    intro cur h d hd
    obtain ⟨s, rest, vs⟩ := f
    obtain ⟨⟨m, m1, m2, m3, m4, m5, m6, mq, pre, m7⟩, hst0⟩ := h
    rw [List.length_cons] at hd
    by_cases e : d = st.length
    · rw [e]; exact mq.2.2
    · have := ih vs hst0 d (by omega)
      have hx := mq.2.1
      exact ⟨this.1.ext hx, (hlit_ext hx this.1).mpr this.2⟩
/-- the head's terms that are variables are bound by literals -/
def HdS (w : World) (b E : Nat) : Prop := ∀ cc, cc < 3 → w (b + 3) (15 + cc) < 0 → ∃ p c', p < E ∧ c' < 3 ∧ (w (b + 1) p = 0 ∨ (w (b + 1) p = 3 ∧ c' = 0)) ∧ w (b + 3) (3 * p + c') = w (b + 3) (15 + cc)
theorem hd_cov {w : World} {b E : Nat} {vs : Nat → Int} (hl : w 103 6 = -1 ∨ (0 ≤ w 103 6 ∧ w 103 6 < (E : Int))) (hH : HdS w b E) (hcov : Cov w b E vs) {cc : Nat} (hcc : cc < 3) : 0 ≤ vl vs (w (b + 3) (15 + cc)) := by
  by_cases hn : w (b + 3) (15 + cc) < 0
  · obtain ⟨p, c', hp, hc', hf, he⟩ := hH cc hcc hn
    obtain ⟨d, hd, e⟩ := pl_onto hl hp
    rw [← e] at hf he
    rw [← he]
    exact hcov d c' hd hc' hf
  · unfold vl
    rw [if_neg hn]
    omega
/-- the head's tuple by the values: the assignment's -/
theorem tn_head {w : World} {b : Nat} {vs : Nat → Int} : tn w b 5 vs = tc (sg vs) (RB w b).ht := by
  unfold tn tc
  rw [tv_sg, tv_sg, tv_sg, m0_n, m0_n, m0_n]
  rfl
theorem hd_cons {w : World} {b E : Nat} {vs : Nat → Int} {σ : Nat → Nat} (hl : w 103 6 = -1 ∨ (0 ≤ w 103 6 ∧ w 103 6 < (E : Int))) (hH : HdS w b E) (hcov : Cov w b E vs) (hK : Cons σ vs) (ht : ∀ cc, cc < 3 → -8 ≤ w (b + 3) (15 + cc)) : tc (sg vs) (RB w b).ht = tc σ (RB w b).ht := by
  have key : ∀ cc, cc < 3 → tv (sg vs) ((RB w b).ht cc) = tv σ ((RB w b).ht cc) := fun cc hcc => by
    have h0 := hd_cov hl hH hcov hcc
    rw [tv_sg]
    show (vl vs (w (b + 3) (15 + cc))).toNat = tv σ (w (b + 3) (15 + cc))
    rw [Cons_vl hK (ht cc hcc) (by omega), Int.toNat_natCast]
  unfold tc
  rw [key 0 (by omega), key 1 (by omega), key 2 (by omega)]
/-- what is known of a literal is known of the grown model -/
theorem hlit_grow {D : SH} {lv : Int → Nat} {M M' : MM} {sl : Nat} {R : RU} {σ : Nat → Nat} {p : Nat} (hf0 : 0 ≤ R.fm p) (hs : lv R.tg = sl) (hl : R.fm p = 1 → lv (R.sj p) < lv R.tg) (ho : ∀ q k, lv q ≠ sl → (M' q k ↔ M q k)) (hg : ∀ q k, M q k → ∃ k', M' q k' ∧ le D q k k') (h : hlit D lv M sl R σ p) : hlit D lv M' sl R σ p := by
  unfold hlit at h ⊢
  by_cases f0 : R.fm p = 0
  · rw [if_pos f0] at h ⊢
    by_cases hlt : lv (R.sj p) < sl
    · rw [if_pos hlt] at h ⊢
      exact (ho _ _ (by omega)).mpr h
    · rw [if_neg hlt] at h ⊢
      obtain ⟨n, hn, hle⟩ := h
      obtain ⟨n', hn', hle'⟩ := hg _ _ hn
      exact ⟨n', hn', le_trans' hle hle'⟩
  · rw [if_neg f0] at h ⊢
    refine (lit_congr (fun hf => ?_)).mp h
    by_cases f1 : R.fm p = 1
    · have := hl f1
      exact (ho _ _ (by omega)).symm
    · omega
