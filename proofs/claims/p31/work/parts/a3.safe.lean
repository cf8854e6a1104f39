/-! BOTH: which rules are safe -/
/-- literals as they may be -/
def WfL (D : SH) (R : RU) : Prop := R.ln ≤ 5 ∧ (∀ p, p < R.ln → 0 ≤ R.fm p ∧ R.fm p ≤ 3) ∧
  (∀ p, p < R.ln → R.fm p ≤ 1 → 1 ≤ D.co (R.sj p) ∧ ∀ c, D.co (R.sj p) ≤ c → c < 3 → R.tm p c = 0) ∧
  (∀ p, p < R.ln → R.fm p = 2 → R.tm p 2 = 0) ∧ ∀ p c, p < R.ln → c < 3 → -8 ≤ R.tm p c ∧ R.tm p c < 128
theorem WfR.L {D : SH} {R : RU} (h : WfR D R) : WfL D R := ⟨h.1, h.2.1, h.2.2.1, h.2.2.2.1, h.2.2.2.2.2.1⟩
theorem WkQ_L {w : World} {R : RU} (hT : WfT w) (hWf : WfL (SA w) R) (hSL : SafeL R) : WkQ (SA w) R R.ln := by
  obtain ⟨hw5, hwfm, hwat, hwc, hwtm⟩ := hWf
  refine ⟨hw5, fun p hp => ⟨fun c hc => hwtm p c hp hc, hwfm p hp, fun hf => ?_⟩, fun d hd hf cc hcc h3 hn => hSL d hd hf cc hcc h3 hn⟩
  obtain ⟨hc1, hc0⟩ := hwat p hp hf
  obtain ⟨n, hn, hn10, hn3, hco⟩ := SA_co_in hc1
  have h3 := (hT n hn10).1
  rw [hn] at hc1 hc0 ⊢
  exact ⟨n, rfl, hn10, hc1, by rw [SA_co hn10]; omega, fun c hc hc2 => hc0 c hc2 hc⟩
theorem ii_bv {b : BitVec 32} : (ii b.toInt).toBitVec = b := by
  show BitVec.ofInt 32 b.toInt = b
  exact BitVec.ofInt_toInt
theorem sub0 {a b : Nat} (ha : a < 256) (hb : b < 256) : iand (a : Int) (ixor (b : Int) (-1)) = 0 ↔ ∀ v, v < 8 → a.testBit v = true → b.testBit v = true := by
  have e1 : iand (a : Int) (ixor (b : Int) (-1)) = (BitVec.ofNat 32 a &&& (BitVec.ofNat 32 b ^^^ BitVec.allOnes 32)).toInt := by
    unfold iand ixor
    show ((ii (a : Int)).toBitVec &&& (ii ((ii (b : Int)).toBitVec ^^^ (ii (-1)).toBitVec).toInt).toBitVec).toInt = _
    rw [ii_bv, bvN, bvN]
    rfl
  rw [e1]
  have e2 : (BitVec.ofNat 32 a &&& (BitVec.ofNat 32 b ^^^ BitVec.allOnes 32)).toInt = 0 ↔ BitVec.ofNat 32 a &&& (BitVec.ofNat 32 b ^^^ BitVec.allOnes 32) = 0#32 := by
    constructor
    · intro h
      apply BitVec.eq_of_toInt_eq
      rw [h]; rfl
    · intro h; rw [h]; rfl
  rw [e2]
  constructor
  · intro h v hv hav
    have := congrArg (fun x => x.getLsbD v) h
    simp only [BitVec.getLsbD_and, BitVec.getLsbD_xor, BitVec.getLsbD_ofNat, BitVec.getLsbD_allOnes, BitVec.getLsbD_zero] at this
    rw [hav] at this
    have h32 : v < 32 := by omega
    simp [h32] at this
    exact this
  · intro h
    apply BitVec.eq_of_getLsbD_eq
    intro v hv
    simp only [BitVec.getLsbD_and, BitVec.getLsbD_xor, BitVec.getLsbD_ofNat, BitVec.getLsbD_allOnes, BitVec.getLsbD_zero]
    by_cases hv8 : v < 8
    · by_cases q : a.testBit v = true
      · rw [q, h v hv8 q]
        simp [hv]
      · have q : a.testBit v = false := by simpa using q
        rw [q]
        simp
    · rw [tb_hi (k := 8) ha (by omega)]
      simp
/-- a variable is bound by the first literals -/
def BdV (R : RU) (n v : Nat) : Prop := ∃ j c, j < n ∧ c < 3 ∧ (R.fm j = 0 ∨ (R.fm j = 3 ∧ c = 0)) ∧ R.tm j c = -1 - (v : Int)
/-- the first literals are safe -/
def SafeU (R : RU) (n : Nat) : Prop := ∀ p, p < n → R.fm p ≠ 0 → ∀ cc, cc < 3 → (R.fm p = 3 → cc ≠ 0) → R.tm p cc < 0 → ∃ j c', j < p ∧ c' < 3 ∧ (R.fm j = 0 ∨ (R.fm j = 3 ∧ c' = 0)) ∧ R.tm j c' = R.tm p cc
theorem SafeU_ln {R : RU} : SafeU R R.ln ↔ SafeL R := Iff.rfl
/-- m is the set of variables of some terms -/
def IsM (m : Nat) (P : Nat → Prop) : Prop := m < 256 ∧ ∀ v, v < 8 → (m.testBit v = true ↔ P v)
theorem vb_bit {t : Int} (ht : -8 ≤ t ∧ t < 128) {v : Nat} (hv : v < 8) : (vb t).testBit v = true ↔ t = -1 - (v : Int) := by
  unfold vb
  by_cases h : t < 0
  · rw [if_pos h, Nat.testBit_two_pow]
    simp only [decide_eq_true_eq]
    omega
  · rw [if_neg h, Nat.zero_testBit]
    constructor
    · intro z; cases z
    · intro z; omega
theorem IsM.or {m m' : Nat} {P P' : Nat → Prop} (h : IsM m P) (h' : IsM m' P') : IsM (m ||| m') (fun v => P v ∨ P' v) := by
  refine ⟨Nat.or_lt_two_pow (n := 8) h.1 h'.1, fun v hv => ?_⟩
  rw [Nat.testBit_or, Bool.or_eq_true, h.2 v hv, h'.2 v hv]
theorem IsM.congr {m : Nat} {P P' : Nat → Prop} (h : IsM m P) (e : ∀ v, v < 8 → (P v ↔ P' v)) : IsM m P' := ⟨h.1, fun v hv => (h.2 v hv).trans (e v hv)⟩
theorem varsFrom_n {w : World} {b p from' : Nat} {f : Nat → Int} (hp : p < 6) (hf : from' ≤ 3) (htm : ∀ c, c < 3 → w (b + 3) (3 * p + c) = f c ∧ -8 ≤ f c ∧ f c < 128) : ∃ m : Nat, f_Bo_variablesFrom w b (p : Int) (from' : Int) = some (m : Int) ∧ IsM m (fun v => ∃ c, from' ≤ c ∧ c < 3 ∧ f c = -1 - (v : Int)) := by
  have loop : ∀ (j k x : Nat), k + j = 3 → from' ≤ k → IsM x (fun v => ∃ c, from' ≤ c ∧ c < k ∧ f c = -1 - (v : Int)) → ∃ m : Nat, f_Bo_variablesFrom_5 w b (p : Int) (x : Int) (k : Int) = some (m : Int) ∧ IsM m (fun v => ∃ c, from' ≤ c ∧ c < 3 ∧ f c = -1 - (v : Int)) := by
    intro j
    induction j with
    | zero =>
      intro k x hk hfk hx
      have e : k = 3 := by omega
      subst e
      refine ⟨x, ?_, hx⟩
      unfold f_Bo_variablesFrom_5
      refine lp_out ?_
      show f_Bo_variablesFrom_5B w b (p : Int) (x : Int) ((3 : Nat) : Int) = _
      unfold f_Bo_variablesFrom_5B
      rw [if_pos (by decide)]
    | succ j ih =>
      intro k x hk hfk hx
      obtain ⟨t1, t2⟩ := htm k (by omega)
      have hvb : IsM (vb (f k)) (fun v => f k = -1 - (v : Int)) := ⟨vb_lt t2, fun v hv => vb_bit t2 hv⟩
      obtain ⟨m, e1, e2⟩ := ih (k + 1) (x ||| vb (f k)) (by omega) (by omega) ((hx.or hvb).congr (fun v hv => by
        constructor
        · rintro (⟨c, h1, h2, h3⟩ | h)
          · exact ⟨c, h1, by omega, h3⟩
          · exact ⟨k, hfk, by omega, h⟩
        · rintro ⟨c, h1, h2, h3⟩
          by_cases e : c = k
          · subst e; exact Or.inr h3
          · exact Or.inl ⟨c, h1, by omega, h3⟩))
      refine ⟨m, ?_, e2⟩
      rw [← e1]
      unfold f_Bo_variablesFrom_5
      refine lp_step (s := ((x : Int), (k : Int))) ?_
      show f_Bo_variablesFrom_5B w b (p : Int) (x : Int) (k : Int) = _
      have h1 := hx.1
      have h2 := vb_lt t2
      unfold f_Bo_variablesFrom_5B
      rw [if_neg (by omega), termOf_n hp (by omega), bnd_s, t1, variableBit_n t2, bnd_s, bl_s, bl_s, ior_n (by omega) (by omega), wr_of (x := (k : Int) + 1) ⟨by omega, by omega⟩]
      rfl
  exact loop (3 - from') from' 0 (by omega) (Nat.le_refl _) ⟨by omega, fun v _ => ⟨fun z => by simp at z, fun ⟨c, h1, h2, _⟩ => absurd h2 (by omega)⟩⟩
/-- the class: which variables are bound -/
theorem boundVars_n {w : World} {b : Nat} (hb0 : w b 0 = ((RB w b).ln : Int)) (hW : WfL (SA w) (RB w b)) : (SafeL (RB w b) ∧ ∃ m : Nat, f_Bo_boundVariables w b = some (m : Int) ∧ IsM m (BdV (RB w b) (RB w b).ln)) ∨ (¬ SafeL (RB w b) ∧ f_Bo_boundVariables w b = some (-1)) := by
  obtain ⟨R, hR⟩ : ∃ R, R = RB w b := ⟨_, rfl⟩
  rw [← hR] at hb0 hW ⊢
  obtain ⟨h5, hfm, hat, hc2, htm⟩ := hW
  have e3 : ∀ p c, w (b + 3) (3 * p + c) = R.tm p c := fun p c => by rw [hR]; rfl
  have e1 : ∀ p, w (b + 1) p = R.fm p := fun p => by rw [hR]; rfl
  have loop : ∀ (j k x : Nat), k + j = R.ln → IsM x (BdV R k) → SafeU R k → (SafeL R ∧ ∃ m : Nat, f_Bo_boundVariables_4 w b (x : Int) (k : Int) = some (m : Int) ∧ IsM m (BdV R R.ln)) ∨ (¬ SafeL R ∧ f_Bo_boundVariables_4 w b (x : Int) (k : Int) = some (-1)) := by
    intro j
    induction j with
    | zero =>
      intro k x hk hx hs
      have e : k = R.ln := by omega
      subst e
      refine Or.inl ⟨hs, x, ?_, hx⟩
      unfold f_Bo_boundVariables_4
      refine lp_out ?_
      show f_Bo_boundVariables_4B w b (x : Int) (R.ln : Int) = _
      unfold f_Bo_boundVariables_4B
      rw [hb0, if_pos (by omega)]
    | succ j ih =>
      intro k x hk hx hs
      have hk5 : k < 5 := by omega
      have hkl : k < R.ln := by omega
      have ht : ∀ c, c < 3 → w (b + 3) (3 * k + c) = R.tm k c ∧ -8 ≤ R.tm k c ∧ R.tm k c < 128 := fun c hc => ⟨e3 k c, htm k c hkl hc⟩
      obtain ⟨ma, hma, hma2⟩ := varsFrom_n (w := w) (b := b) (p := k) (from' := 0) (by omega) (by omega) ht
      have hma : f_Bo_variablesFrom w b (k : Int) 0 = some (ma : Int) := hma
      -- what it needs
      have need : ∃ nd : Nat, f_Bo_boundVariables_4B w b (x : Int) (k : Int) = f_Bo_boundVariables_41 w b (x : Int) (k : Int) (nd : Int) ∧ IsM nd (fun v => R.fm k ≠ 0 ∧ ∃ cc, cc < 3 ∧ (R.fm k = 3 → cc ≠ 0) ∧ R.tm k cc = -1 - (v : Int)) := by
        unfold f_Bo_boundVariables_4B
        rw [hb0, if_neg (by omega), formOf_n hk5, bnd_s, e1]
        by_cases f0 : R.fm k = 0
        · rw [if_pos f0]
          exact ⟨0, rfl, by omega, fun v _ => ⟨fun z => by simp at z, fun z => absurd f0 z.1⟩⟩
        · rw [if_neg f0]
          unfold f_Bo_boundVariables_38
          by_cases f3 : R.fm k = 3
          · rw [if_pos f3]
            obtain ⟨m1, hm1, hm2⟩ := varsFrom_n (w := w) (b := b) (p := k) (from' := 1) (by omega) (by omega) ht
            have hm1 : f_Bo_variablesFrom w b (k : Int) 1 = some (m1 : Int) := hm1
            rw [hm1, bnd_s]
            refine ⟨m1, rfl, hm2.congr (fun v _ => ⟨fun ⟨c, h1, h2, h3⟩ => ⟨f0, c, h2, fun _ => by omega, h3⟩, fun ⟨_, c, h2, h3, h4⟩ => ⟨c, by have := h3 f3; omega, h2, h4⟩⟩)⟩
          · rw [if_neg f3, hma, bnd_s]
            refine ⟨ma, rfl, hma2.congr (fun v _ => ⟨fun ⟨c, h1, h2, h3⟩ => ⟨f0, c, h2, fun z => absurd z f3, h3⟩, fun ⟨_, c, h2, h3, h4⟩ => ⟨c, Nat.zero_le _, h2, h4⟩⟩)⟩
      obtain ⟨nd, end1, end2⟩ := need
      have hsub := sub0 end2.1 hx.1
      have hsafe : (∀ v, v < 8 → nd.testBit v = true → x.testBit v = true) ↔ SafeU R (k + 1) := by
        constructor
        · intro h p hp hf cc hcc h3 hn
          by_cases e : p = k
          · subst e
            have hr := htm p cc hkl hcc
            have hv8 : (-1 - R.tm p cc).toNat < 8 := by omega
            have hve : R.tm p cc = -1 - (((-1 - R.tm p cc).toNat : Nat) : Int) := by omega
            have h1 := (hx.2 _ hv8).mp (h _ hv8 ((end2.2 _ hv8).mpr ⟨hf, cc, hcc, h3, hve⟩))
            obtain ⟨j', c', k1, k2, k3, k4⟩ := h1
            exact ⟨j', c', k1, k2, k3, by rw [k4, ← hve]⟩
          · exact hs p (by omega) hf cc hcc h3 hn
        · intro h v hv hvt
          obtain ⟨hf, cc, hcc, h3, he⟩ := (end2.2 v hv).mp hvt
          obtain ⟨j', c', k1, k2, k3, k4⟩ := h k (by omega) hf cc hcc h3 (by omega)
          exact (hx.2 v hv).mpr ⟨j', c', k1, k2, k3, by rw [k4, he]⟩
      by_cases q : SafeU R (k + 1)
      · have h0 := hsub.mpr (hsafe.mpr q)
        rcases ih (k + 1) (x ||| ma) (by omega) ((hx.or hma2).congr (fun v hv => by
          constructor
          · rintro (⟨j', c, h1, h2, h3, h4⟩ | ⟨c, h1, h2, h3⟩)
            · exact ⟨j', c, by omega, h2, h3, h4⟩
            · by_cases f0 : R.fm k = 0
              · exact ⟨k, c, by omega, h2, Or.inl f0, h3⟩
              · by_cases f3 : R.fm k = 3 ∧ c = 0
                · exact ⟨k, c, by omega, h2, Or.inr f3, h3⟩
                · obtain ⟨j', c', k1, k2, k3, k4⟩ := q k (by omega) f0 c h2 (fun z zc => f3 ⟨z, zc⟩) (by omega)
                  exact ⟨j', c', by omega, k2, k3, by rw [k4, h3]⟩
          · rintro ⟨j', c, h1, h2, h3, h4⟩
            by_cases e : j' = k
            · subst e; exact Or.inr ⟨c, Nat.zero_le _, h2, h4⟩
            · exact Or.inl ⟨j', c, by omega, h2, h3, h4⟩)) q with ⟨a1, m, a2, a3⟩ | ⟨a1, a2⟩
        · refine Or.inl ⟨a1, m, ?_, a3⟩
          rw [← a2]
          unfold f_Bo_boundVariables_4
          refine lp_step (s := ((x : Int), (k : Int))) ?_
          show f_Bo_boundVariables_4B w b (x : Int) (k : Int) = _
          have h1 := hx.1
          have h2 := hma2.1
          rw [end1]
          unfold f_Bo_boundVariables_41
          rw [if_pos h0, hma, bnd_s, bl_s, bl_s, ior_n (by omega) (by omega), wr_of (x := (k : Int) + 1) ⟨by omega, by omega⟩]
          rfl
        · refine Or.inr ⟨a1, ?_⟩
          rw [← a2]
          unfold f_Bo_boundVariables_4
          refine lp_step (s := ((x : Int), (k : Int))) ?_
          show f_Bo_boundVariables_4B w b (x : Int) (k : Int) = _
          have h1 := hx.1
          have h2 := hma2.1
          rw [end1]
          unfold f_Bo_boundVariables_41
          rw [if_pos h0, hma, bnd_s, bl_s, bl_s, ior_n (by omega) (by omega), wr_of (x := (k : Int) + 1) ⟨by omega, by omega⟩]
          rfl
      · have h0 : ¬ iand (nd : Int) (ixor (x : Int) (-1)) = 0 := fun z => q (hsafe.mp (hsub.mp z))
        refine Or.inr ⟨fun z => q (fun p hp => z p (by omega)), ?_⟩
        unfold f_Bo_boundVariables_4
        refine lp_out ?_
        show f_Bo_boundVariables_4B w b (x : Int) (k : Int) = _
        rw [end1]
        unfold f_Bo_boundVariables_41
        rw [if_neg h0]
  exact loop R.ln 0 0 (by omega) ⟨by omega, fun v _ => ⟨fun z => by simp at z, fun ⟨j, c, h1, _⟩ => absurd h1 (by omega)⟩⟩ (fun p hp => absurd hp (by omega))
theorem safeH_iff {R : RU} (hht : ∀ c, c < 3 → -8 ≤ R.ht c ∧ R.ht c < 128) : SafeH R ↔ ∀ v : Nat, v < 8 → (∃ c, c < 3 ∧ R.ht c = -1 - (v : Int)) → BdV R R.ln v := by
  constructor
  · rintro h v hv ⟨c, hc, he⟩
    obtain ⟨p, c', h1, h2, h3, h4⟩ := h c hc (by omega)
    exact ⟨p, c', h1, h2, h3, by rw [h4, he]⟩
  · intro h cc hcc hn
    have hr := hht cc hcc
    have hv8 : (-1 - R.ht cc).toNat < 8 := by omega
    have hve : R.ht cc = -1 - (((-1 - R.ht cc).toNat : Nat) : Int) := by omega
    obtain ⟨p, c', h1, h2, h3, h4⟩ := h _ hv8 ⟨cc, hcc, hve⟩
    exact ⟨p, c', h1, h2, h3, by rw [h4, ← hve]⟩
theorem isSafeA_n {w : World} {b : Nat} (hb0 : w b 0 = ((RB w b).ln : Int)) (hW : WfL (SA w) (RB w b)) (hht : ∀ c, c < 3 → -8 ≤ (RB w b).ht c ∧ (RB w b).ht c < 128) : ∃ v, f_Bo_isSafe w b = some v ∧ ((v = 1 ∧ SafeL (RB w b) ∧ SafeH (RB w b)) ∨ (v = 0 ∧ ¬ (SafeL (RB w b) ∧ SafeH (RB w b)))) := by
  unfold f_Bo_isSafe
  rcases boundVars_n hb0 hW with ⟨h1, m, h2, h3⟩ | ⟨h1, h2⟩
  · rw [h2, bnd_s, if_neg (by omega)]
    obtain ⟨mh, k1, k2⟩ := varsFrom_n (w := w) (b := b) (p := 5) (from' := 0) (f := (RB w b).ht) (by omega) (by omega) (fun c hc => ⟨by show w (b + 3) (3 * 5 + c) = w (b + 3) (15 + c); rw [show 3 * 5 + c = 15 + c by omega], hht c hc⟩)
    have k1 : f_Bo_variablesFrom w b 5 0 = some (mh : Int) := k1
    rw [k1, bnd_s]
    have hs := sub0 k2.1 h3.1
    have hiff : SafeH (RB w b) ↔ ∀ v : Nat, v < 8 → mh.testBit v = true → m.testBit v = true := by
      rw [safeH_iff hht]
      constructor
      · intro h v hv hm
        obtain ⟨c, -, c2, c3⟩ := (k2.2 v hv).mp hm
        exact (h3.2 v hv).mpr (h v hv ⟨c, c2, c3⟩)
      · rintro h v hv ⟨c, c2, c3⟩
        exact (h3.2 v hv).mp (h v hv ((k2.2 v hv).mpr ⟨c, Nat.zero_le _, c2, c3⟩))
    by_cases q : SafeH (RB w b)
    · rw [if_pos (hs.mpr (hiff.mp q))]
      exact ⟨1, rfl, Or.inl ⟨rfl, h1, q⟩⟩
    · rw [if_neg (fun z => q (hiff.mpr (hs.mp z)))]
      exact ⟨0, rfl, Or.inr ⟨rfl, fun z => q z.2⟩⟩
  · rw [h2, bnd_s, if_pos rfl]
    exact ⟨0, rfl, Or.inr ⟨rfl, fun z => h1 z.1⟩⟩
