/-! THE CLASS'S STRATA: what grows -/
theorem cnt_cut {P : Nat → Bool} : ∀ n m : Nat, m ≤ n → cnt (fun i => decide (i < m) && P i) n = cnt P m := by
  intro n
  induction n with
  | zero => intro m hm; have : m = 0 := by omega
            subst this; rfl
  | succ n ih =>
    intro m hm
    show cnt _ n + _ = _
    by_cases q : m ≤ n
    · rw [ih m q, if_neg (by simp; omega)]
      rfl
    · have e : m = n + 1 := by omega
      subst e
      have e1 : cnt (fun i => decide (i < n + 1) && P i) n = cnt P n := cnt_congr (fun i hi => by simp; omega)
      rw [e1]
      show _ = cnt P n + _
      simp
/-- how often a term is in a column -/
def cc3 (R : RU) (t : Int) (c : Nat) : Nat := (if R.ht c = t then 1 else 0) + cnt (fun p => decide (R.tm p c = t)) R.ln
theorem mn_cols {R : RU} {t : Int} (h5 : R.ln ≤ 5) : mn R t = cc3 R t 0 + cc3 R t 1 + cc3 R t 2 := by
  have e : ∀ c, cnt (fun p => decide (R.tm p c = t)) R.ln = cnt (fun p => decide (p < R.ln) && decide (R.tm p c = t)) 5 := fun c => (cnt_cut 5 R.ln h5).symm
  unfold cc3 mn
  rw [e 0, e 1, e 2]
  have hb : ∀ p c : Nat, p < 5 → c < 3 → acP R t (3 * p + c) = (decide (p < R.ln) && decide (R.tm p c = t)) := fun p c hp hc => by
    unfold acP ta
    rw [show (3 * p + c) / 3 = p by omega, show (3 * p + c) % 3 = c by omega, if_pos (by omega), decide_eq_false (show ¬ 15 ≤ 3 * p + c by omega), Bool.or_false]
  have hh : ∀ c : Nat, c < 3 → acP R t (15 + c) = decide (R.ht c = t) := fun c hc => by
    unfold acP ta
    rw [if_neg (by omega), show 15 + c - 15 = c by omega, decide_eq_true (show 15 ≤ 15 + c by omega), Bool.or_true, Bool.true_and]
  simp only [cnt]
  have b00 := hb 0 0 (by omega) (by omega); have b01 := hb 0 1 (by omega) (by omega); have b02 := hb 0 2 (by omega) (by omega)
  have b10 := hb 1 0 (by omega) (by omega); have b11 := hb 1 1 (by omega) (by omega); have b12 := hb 1 2 (by omega) (by omega)
  have b20 := hb 2 0 (by omega) (by omega); have b21 := hb 2 1 (by omega) (by omega); have b22 := hb 2 2 (by omega) (by omega)
  have b30 := hb 3 0 (by omega) (by omega); have b31 := hb 3 1 (by omega) (by omega); have b32 := hb 3 2 (by omega) (by omega)
  have b40 := hb 4 0 (by omega) (by omega); have b41 := hb 4 1 (by omega) (by omega); have b42 := hb 4 2 (by omega) (by omega)
  have h0 := hh 0 (by omega); have h1 := hh 1 (by omega); have h2 := hh 2 (by omega)
  simp only [Nat.mul_zero, Nat.zero_add, Nat.add_zero, Nat.reduceMul, Nat.reduceAdd] at b00 b01 b02 b10 b11 b12 b20 b21 b22 b30 b31 b32 b40 b41 b42 h0 h1 h2 ⊢
  rw [b00, b01, b02, b10, b11, b12, b20, b21, b22, b30, b31, b32, b40, b41, b42, h0, h1, h2]
  simp only [decide_eq_true_eq]
  omega
theorem cnt_le {P : Nat → Bool} : ∀ n, cnt P n ≤ n := by
  intro n
  induction n with
  | zero => exact Nat.le_refl _
  | succ n ih =>
    show cnt P n + _ ≤ n + 1
    split <;> omega
theorem mentions_n {w : World} {b : Nat} {t : Int} (hb0 : w b 0 = ((RB w b).ln : Int)) (h5 : (RB w b).ln ≤ 5) : f_Bo_mentions w b t = some ((mn (RB w b) t : Nat) : Int) := by
  obtain ⟨R, hR⟩ : ∃ R, R = RB w b := ⟨_, rfl⟩
  rw [← hR] at hb0 h5 ⊢
  have htm : ∀ p c, w (b + 3) (3 * p + c) = R.tm p c := fun p c => by rw [hR]; rfl
  have hht : ∀ c, w (b + 3) (15 + c) = R.ht c := fun c => by rw [hR]; rfl
  have inner : ∀ (x : Nat) (c : Nat), c < 3 → x ≤ 100 → f_Bo_mentions_30 w b t (x : Int) (c : Int) 0 = some (Sum.inl (((x + cnt (fun p => decide (R.tm p c = t)) R.ln : Nat) : Int), ((c + 1 : Nat) : Int))) := fun x c hc hx => by
    have h := lp_go (F := fun z : (Int × Int) => f_Bo_mentions_30B w b t z.1 (c : Int) z.2) (fun i => (((x + cnt (fun p => decide (R.tm p c = t)) i : Nat) : Int), (i : Int))) (Sum.inl (((x + cnt (fun p => decide (R.tm p c = t)) R.ln : Nat) : Int), ((c + 1 : Nat) : Int))) R.ln (fun i hi => by
      show f_Bo_mentions_30B w b t ((x + cnt (fun p => decide (R.tm p c = t)) i : Nat) : Int) (c : Int) (i : Int) = some (Sum.inl (((x + (cnt (fun p => decide (R.tm p c = t)) i + _) : Nat) : Int), ((i + 1 : Nat) : Int)))
      have hle := cnt_le (P := fun p => decide (R.tm p c = t)) i
      unfold f_Bo_mentions_30B f_Bo_mentions_56
      rw [hb0, if_neg (by omega), termOf_n (by omega) hc, bnd_s, htm]
      by_cases q : R.tm i c = t
      · rw [if_pos q, if_pos (decide_eq_true q), bl_s, bl_s, wr_of (x := ((x + cnt (fun p => decide (R.tm p c = t)) i : Nat) : Int) + 1) ⟨by omega, by omega⟩, wr_of (x := (i : Int) + 1) ⟨by omega, by omega⟩]
        rfl
      · rw [if_neg q, if_neg (by simpa using q), bl_s, bl_s, wr_of (x := ((x + cnt (fun p => decide (R.tm p c = t)) i : Nat) : Int) + 0) ⟨by omega, by omega⟩, wr_of (x := (i : Int) + 1) ⟨by omega, by omega⟩]
        rfl) (by
      show f_Bo_mentions_30B w b t ((x + cnt (fun p => decide (R.tm p c = t)) R.ln : Nat) : Int) (c : Int) (R.ln : Int) = _
      unfold f_Bo_mentions_30B
      rw [hb0, if_pos (by omega), bl_s, wr_of (x := (c : Int) + 1) ⟨by omega, by omega⟩]
      rfl)
    exact h
  have outer : ∀ (x c : Nat), c < 3 → x ≤ 50 → f_Bo_mentions_4B w b t (x : Int) (c : Int) = some (Sum.inl (((x + cc3 R t c : Nat) : Int), ((c + 1 : Nat) : Int))) := fun x c hc hx => by
    unfold f_Bo_mentions_4B f_Bo_mentions_25 cc3
    have h5' : f_Bo_termOf w b 5 (c : Int) = some (R.ht c) := by
      have := termOf_n (w := w) (b := b) (p := 5) (c := c) (by omega) hc
      rw [show 3 * 5 + c = 15 + c by omega, hht] at this
      exact this
    rw [if_neg (by omega), h5', bnd_s]
    by_cases q : R.ht c = t
    · rw [if_pos q, if_pos q, bl_s, wr_of (x := (x : Int) + 1) ⟨by omega, by omega⟩]
      have := inner (x + 1) c hc (by omega)
      rw [show ((x + 1 : Nat) : Int) = (x : Int) + 1 from rfl] at this
      rw [this, Nat.add_assoc]
    · rw [if_neg q, if_neg q, bl_s, wr_of (x := (x : Int) + 0) ⟨by omega, by omega⟩, Int.add_zero, inner x c hc (by omega), Nat.zero_add]
  have hcc : ∀ c, cc3 R t c ≤ 6 := fun c => by
    unfold cc3
    have := cnt_le (P := fun p => decide (R.tm p c = t)) R.ln
    split <;> omega
  have c0 := hcc 0; have c1 := hcc 1
  have o0 := outer 0 0 (by omega) (by omega)
  have o1 := outer (0 + cc3 R t 0) 1 (by omega) (by omega)
  have o2 := outer (0 + cc3 R t 0 + cc3 R t 1) 2 (by omega) (by omega)
  unfold f_Bo_mentions f_Bo_mentions_4
  rw [mn_cols h5]
  have s0 : f_Bo_mentions_4B w b t 0 0 = _ := o0
  have s1 : f_Bo_mentions_4B w b t ((0 + cc3 R t 0 : Nat) : Int) ((0 + 1 : Nat) : Int) = _ := o1
  have s2 : f_Bo_mentions_4B w b t ((0 + cc3 R t 0 + cc3 R t 1 : Nat) : Int) ((1 + 1 : Nat) : Int) = _ := o2
  rw [lp_step (F := fun z : (Int × Int) => f_Bo_mentions_4B w b t z.1 z.2) (s := ((0 : Int), (0 : Int))) s0, lp_step (F := fun z : (Int × Int) => f_Bo_mentions_4B w b t z.1 z.2) s1, lp_step (F := fun z : (Int × Int) => f_Bo_mentions_4B w b t z.1 z.2) s2]
  refine lp_out ?_
  show f_Bo_mentions_4B w b t ((0 + cc3 R t 0 + cc3 R t 1 + cc3 R t 2 : Nat) : Int) ((2 + 1 : Nat) : Int) = _
  unfold f_Bo_mentions_4B
  rw [if_pos (by decide), Nat.zero_add]
/-- the first term of the last sum that has this term behind -/
def inS (R : RU) (t : Int) (q : Nat) : Prop := R.fm q = 3 ∧ (R.tm q 1 = t ∨ R.tm q 2 = t)
theorem sumOver_n {w : World} {b : Nat} {t : Int} (hb0 : w b 0 = ((RB w b).ln : Int)) (h5 : (RB w b).ln ≤ 5) : ∃ x, f_Bo_sumOver w b t = some x ∧ ((x = 0 ∧ ∀ q, q < (RB w b).ln → ¬ inS (RB w b) t q) ∨ ∃ q, q < (RB w b).ln ∧ inS (RB w b) t q ∧ x = (RB w b).tm q 0) := by
  obtain ⟨R, hR⟩ : ∃ R, R = RB w b := ⟨_, rfl⟩
  rw [← hR] at hb0 h5 ⊢
  have htm : ∀ p c, w (b + 3) (3 * p + c) = R.tm p c := fun p c => by rw [hR]; rfl
  have hfm : ∀ p, w (b + 1) p = R.fm p := fun p => by rw [hR]; rfl
  have loop : ∀ (j k : Nat) (x : Int), k + j = R.ln → ((x = 0 ∧ ∀ q, q < k → ¬ inS R t q) ∨ ∃ q, q < k ∧ inS R t q ∧ x = R.tm q 0) → ∃ y, f_Bo_sumOver_4 w b t x (k : Int) = some y ∧ ((y = 0 ∧ ∀ q, q < R.ln → ¬ inS R t q) ∨ ∃ q, q < R.ln ∧ inS R t q ∧ y = R.tm q 0) := by
    intro j
    induction j with
    | zero =>
      intro k x hk hx
      have e : k = R.ln := by omega
      subst e
      refine ⟨x, ?_, hx⟩
      unfold f_Bo_sumOver_4
      refine lp_out ?_
      show f_Bo_sumOver_4B w b t x (R.ln : Int) = _
      unfold f_Bo_sumOver_4B
      rw [hb0, if_pos (by omega)]
    | succ j ih =>
      intro k x hk hx
      have hk5 : k < 5 := by omega
      have one : ∃ x', f_Bo_sumOver_4B w b t x (k : Int) = some (Sum.inl (x', ((k + 1 : Nat) : Int))) ∧ ((x' = 0 ∧ ∀ q, q < k + 1 → ¬ inS R t q) ∨ ∃ q, q < k + 1 ∧ inS R t q ∧ x' = R.tm q 0) := by
        have t0 : f_Bo_termOf w b (k : Int) 0 = some (R.tm k 0) := by
          have := termOf_n (w := w) (b := b) (p := k) (c := 0) (by omega) (by omega)
          rw [htm] at this; exact this
        have t1 : f_Bo_termOf w b (k : Int) 1 = some (R.tm k 1) := by
          have := termOf_n (w := w) (b := b) (p := k) (c := 1) (by omega) (by omega)
          rw [htm] at this; exact this
        have t2 : f_Bo_termOf w b (k : Int) 2 = some (R.tm k 2) := by
          have := termOf_n (w := w) (b := b) (p := k) (c := 2) (by omega) (by omega)
          rw [htm] at this; exact this
        have yes : inS R t k → f_Bo_sumOver_41 w b t (k : Int) = some (Sum.inl (R.tm k 0, ((k + 1 : Nat) : Int))) := fun _ => by
          unfold f_Bo_sumOver_41 f_Bo_sumOver_48
          rw [t0, bnd_s, bl_s, wr_of (x := (k : Int) + 1) ⟨by omega, by omega⟩]
          rfl
        have no : f_Bo_sumOver_48 w b t x (k : Int) = some (Sum.inl (x, ((k + 1 : Nat) : Int))) := by
          unfold f_Bo_sumOver_48
          rw [bl_s, wr_of (x := (k : Int) + 1) ⟨by omega, by omega⟩]
          rfl
        have nn : ¬ inS R t k → ((x = 0 ∧ ∀ q, q < k + 1 → ¬ inS R t q) ∨ ∃ q, q < k + 1 ∧ inS R t q ∧ x = R.tm q 0) := fun h => hx.imp (fun z => ⟨z.1, fun q hq => by
          by_cases e : q = k
          · subst e; exact h
          · exact z.2 q (by omega)⟩) (fun ⟨q, z1, z2⟩ => ⟨q, by omega, z2⟩)
        unfold f_Bo_sumOver_4B
        rw [hb0, if_neg (by omega), formOf_n hk5, bnd_s, hfm]
        by_cases f3 : R.fm k = 3
        · rw [if_pos f3, t1, bnd_s]
          by_cases q1 : R.tm k 1 = t
          · rw [if_pos q1]
            exact ⟨_, yes ⟨f3, Or.inl q1⟩, Or.inr ⟨k, by omega, ⟨f3, Or.inl q1⟩, rfl⟩⟩
          · rw [if_neg q1, t2, bnd_s]
            by_cases q2 : R.tm k 2 = t
            · rw [if_pos q2]
              exact ⟨_, yes ⟨f3, Or.inr q2⟩, Or.inr ⟨k, by omega, ⟨f3, Or.inr q2⟩, rfl⟩⟩
            · rw [if_neg q2]
              exact ⟨_, no, nn (fun z => z.2.elim q1 q2)⟩
        · rw [if_neg f3]
          exact ⟨_, no, nn (fun z => f3 z.1)⟩
      obtain ⟨x', e1, e2⟩ := one
      obtain ⟨y, e3, e4⟩ := ih (k + 1) x' (by omega) e2
      refine ⟨y, ?_, e4⟩
      rw [← e3]
      unfold f_Bo_sumOver_4
      exact lp_step (s := (x, (k : Int))) e1
  exact loop R.ln 0 0 (by omega) (Or.inl ⟨rfl, fun q hq => absurd hq (by omega)⟩)
theorem pos_ne {p q a c : Nat} (h : q ≠ p) (ha : a < 3) (hc : c < 3) : 3 * p + a ≠ 3 * q + c := by omega
theorem pos_eq {p q q' a c c' : Nat} (h : 3 * q' + c' = 3 * p + a ∨ 3 * q' + c' = 3 * q + c) (hne : q' ≠ p) (ha : a < 3) (hc : c < 3) (hc' : c' < 3) : q' = q := by omega
theorem pos_lt {p a n : Nat} (hp : p < n) (hn : n ≤ 5) (ha : a < 3) : 3 * p + a < 18 := by omega
/-- whether an atom grows, as the class finds it -/
theorem growsA_n {w : World} {b p : Nat} (hS : WfS w) (hb0 : w b 0 = ((RB w b).ln : Int)) (hR : WfR (SA w) (RB w b)) (htg : ∃ r : Nat, r < 10 ∧ (RB w b).tg = (r : Int)) (hp : p < (RB w b).ln) (hf : (RB w b).fm p = 0) : ∃ v, f_Pr_grows w b (p : Int) = some v ∧ ((v = 1 ∧ Gr (SA w) (RB w b) p) ∨ (v = 0 ∧ ¬ Gr (SA w) (RB w b) p)) := by
  obtain ⟨h5, -, hat, -, ⟨hh1, -⟩, htr, -⟩ := id hR
  obtain ⟨hc1, -⟩ := hat p hp (by omega)
  obtain ⟨s, hs, hs10, hs3, hsco⟩ := SA_co_in hc1
  obtain ⟨r, hr10, hr⟩ := htg
  have hSs := hS s hs10
  have hSr := hS r hr10
  have hp5 : p < 5 := by omega
  have hcs : (w 3 s).toNat - 1 < 3 := by omega
  have hpl := pos_lt hp5 (Nat.le_refl 5) hcs
  have hco : (SA w).co (RB w b).tg = (w 3 r).toNat := by rw [hr, SA_co hr10]
  have esub : f_Bo_subjectOf w b (p : Int) = some (s : Int) := by
    rw [subjectOf_n hp5]
    show some ((RB w b).sj p) = _
    rw [hs]
  have eterm : f_Bo_termOf w b (p : Int) (wr (w 3 s - 1)) = some ((RB w b).tm p ((w 3 s).toNat - 1)) := by
    rw [wr_of (x := w 3 s - 1) ⟨by omega, by omega⟩]
    have := termOf_n (w := w) (b := b) (p := p) (c := (w 3 s).toNat - 1) (by omega) (by omega)
    rw [show (((w 3 s).toNat - 1 : Nat) : Int) = w 3 s - 1 by omega] at this
    exact this
  have hhd : f_Bo_termOf w b 5 (wr (w 3 r - 1)) = some ((RB w b).ht ((w 3 r).toNat - 1)) := by
    rw [wr_of (x := w 3 r - 1) ⟨by omega, by omega⟩]
    have := termOf_n (w := w) (b := b) (p := 5) (c := (w 3 r).toNat - 1) (by omega) (by omega)
    rw [show (((w 3 r).toNat - 1 : Nat) : Int) = w 3 r - 1 by omega] at this
    have e5 : ((5 : Nat) : Int) = 5 := rfl
    rw [e5] at this
    rw [this]
    show some (w (b + 3) _) = some (w (b + 3) _)
    rw [show 3 * 5 + ((w 3 r).toNat - 1) = 15 + ((w 3 r).toNat - 1) by omega]
  obtain ⟨t, ht⟩ : ∃ t, t = (RB w b).tm p ((w 3 s).toNat - 1) := ⟨_, rfl⟩
  obtain ⟨u, hu⟩ : ∃ u, u = (RB w b).ht ((w 3 r).toNat - 1) := ⟨_, rfl⟩
  rw [← ht] at eterm
  rw [← hu] at hhd
  have hGr : Gr (SA w) (RB w b) p ↔ t < 0 ∧ (mn (RB w b) t = 1 ∨ (mn (RB w b) t = 2 ∧ w 4 r = w 4 s ∧ u = t) ∨ (mn (RB w b) t = 2 ∧ w 4 r = w 4 s ∧ w 4 s ≠ 3 ∧ ∃ q, q < (RB w b).ln ∧ inS (RB w b) t q ∧ (RB w b).tm q 0 < 0 ∧ u = (RB w b).tm q 0 ∧ mn (RB w b) ((RB w b).tm q 0) = 2)) := by
    have e1 : (SA w).co ((RB w b).sj p) = (w 3 s).toNat := hsco
    have e2 : (SA w).ki ((RB w b).sj p) = (w 4 s).toNat := by rw [hs, SA_ki hs10]
    have e3 : (SA w).ki (RB w b).tg = (w 4 r).toNat := by rw [hr, SA_ki hr10]
    have k1 : (w 4 r).toNat = (w 4 s).toNat ↔ w 4 r = w 4 s := by omega
    have k2 : (w 4 s).toNat ≠ 3 ↔ w 4 s ≠ 3 := by omega
    unfold Gr
    simp only [e1, e2, e3, hco, ← ht, ← hu, k1, k2]
    constructor
    · rintro ⟨a, b1 | b1 | ⟨b1, b2, b3, q, q1, q2, q3, q4, q5, q6⟩⟩
      · exact ⟨a, Or.inl b1⟩
      · exact ⟨a, Or.inr (Or.inl b1)⟩
      · exact ⟨a, Or.inr (Or.inr ⟨b1, b2, b3, q, q1, ⟨q2, q3⟩, q4, q5, q6⟩)⟩
    · rintro ⟨a, b1 | b1 | ⟨b1, b2, b3, q, q1, ⟨q2, q3⟩, q4, q5, q6⟩⟩
      · exact ⟨a, Or.inl b1⟩
      · exact ⟨a, Or.inr (Or.inl b1)⟩
      · exact ⟨a, Or.inr (Or.inr ⟨b1, b2, b3, q, q1, q2, q3, q4, q5, q6⟩)⟩
  rw [hGr]
  have hm := mentions_n (t := t) hb0 h5
  have hw1 : w b 1 = (r : Int) := hr
  obtain ⟨x, hx, hxx⟩ := sumOver_n (t := t) hb0 h5
  unfold f_Pr_grows
  rw [esub, bnd_s, kindOf_n hs10, bnd_s, columnsOf_n hs10, bnd_s, eterm, bnd_s, hm, bnd_s]
  by_cases ht0 : 0 ≤ t
  · rw [if_pos ht0]
    exact ⟨0, rfl, Or.inr ⟨rfl, fun z => by omega⟩⟩
  · rw [if_neg ht0]
    have hm1 : 1 ≤ mn (RB w b) t := by
      have h1 := acP_b (R := RB w b) (p := p) (c := (w 3 s).toNat - 1) hp h5 hcs
      rw [← ht] at h1
      have := cnt_1 (n := 18) hpl h1
      exact Nat.le_trans (Nat.le_add_left 1 _) this
    by_cases h2 : mn (RB w b) t ≤ 2
    · rw [if_pos (by omega), hw1, kindOf_n hr10, bnd_s]
      have g133 : ∀ (a y : Int), (a = 0 ∨ a = 1) → ∃ v, f_Pr_grows_133 w b a u y = some v ∧ ((v = 1 ∧ (a = 1 ∧ y < 0 ∧ u = y ∧ mn (RB w b) y = 2)) ∨ (v = 0 ∧ ¬ (a = 1 ∧ y < 0 ∧ u = y ∧ mn (RB w b) y = 2))) := fun a y ha => by
        unfold f_Pr_grows_133 f_Pr_grows_160
        by_cases a0 : a = 0
        · rw [if_pos a0]; exact ⟨0, rfl, Or.inr ⟨rfl, fun z => by omega⟩⟩
        · rw [if_neg a0]
          by_cases y0 : 0 ≤ y
          · rw [if_pos y0]; exact ⟨0, rfl, Or.inr ⟨rfl, fun z => by omega⟩⟩
          · rw [if_neg y0]
            by_cases yu : u = y
            · rw [if_pos yu, mentions_n hb0 h5, bnd_s]
              by_cases m2 : mn (RB w b) y = 2
              · rw [if_pos (by omega)]; exact ⟨1, rfl, Or.inl ⟨rfl, by omega, by omega, yu, m2⟩⟩
              · rw [if_neg (by omega)]; exact ⟨0, rfl, Or.inr ⟨rfl, fun z => m2 z.2.2.2⟩⟩
            · rw [if_neg yu]; exact ⟨0, rfl, Or.inr ⟨rfl, fun z => yu z.2.2.1⟩⟩
      have g113 : ∀ (a y : Int), (a = 0 ∨ a = 1) → ∃ v, f_Pr_grows_113 w b t ((mn (RB w b) t : Nat) : Int) a u y = some v ∧ ((v = 1 ∧ (mn (RB w b) t = 1 ∨ (a = 1 ∧ u = t) ∨ (a = 1 ∧ y < 0 ∧ u = y ∧ mn (RB w b) y = 2))) ∨ (v = 0 ∧ ¬ (mn (RB w b) t = 1 ∨ (a = 1 ∧ u = t) ∨ (a = 1 ∧ y < 0 ∧ u = y ∧ mn (RB w b) y = 2)))) := fun a y ha => by
        obtain ⟨v, hv, hv2⟩ := g133 a y ha
        unfold f_Pr_grows_113 f_Pr_grows_160
        by_cases m1 : mn (RB w b) t = 1
        · rw [if_pos (by omega)]; exact ⟨1, rfl, Or.inl ⟨rfl, Or.inl m1⟩⟩
        · rw [if_neg (by omega)]
          by_cases a0 : a = 0
          · rw [if_pos a0, hv]
            refine ⟨v, rfl, hv2.imp (fun z => ⟨z.1, Or.inr (Or.inr z.2)⟩) (fun z => ⟨z.1, fun k => ?_⟩)⟩
            rcases k with k | k | k
            · exact m1 k
            · omega
            · exact z.2 k
          · rw [if_neg a0]
            by_cases ut : u = t
            · rw [if_pos ut]; exact ⟨1, rfl, Or.inl ⟨rfl, Or.inr (Or.inl ⟨by omega, ut⟩)⟩⟩
            · rw [if_neg ut, hv]
              refine ⟨v, rfl, hv2.imp (fun z => ⟨z.1, Or.inr (Or.inr z.2)⟩) (fun z => ⟨z.1, fun k => ?_⟩)⟩
              rcases k with k | k | k
              · exact m1 k
              · exact ut k.2
              · exact z.2 k
      have g75 : ∀ a : Int, (a = 0 ∨ a = 1) → (a = 1 ↔ w 4 r = w 4 s) → ∃ v, f_Pr_grows_75 w b (w 4 s) t ((mn (RB w b) t : Nat) : Int) a = some v ∧ ((v = 1 ∧ (t < 0 ∧ (mn (RB w b) t = 1 ∨ (mn (RB w b) t = 2 ∧ w 4 r = w 4 s ∧ u = t) ∨ (mn (RB w b) t = 2 ∧ w 4 r = w 4 s ∧ w 4 s ≠ 3 ∧ ∃ q, q < (RB w b).ln ∧ inS (RB w b) t q ∧ (RB w b).tm q 0 < 0 ∧ u = (RB w b).tm q 0 ∧ mn (RB w b) ((RB w b).tm q 0) = 2)))) ∨ (v = 0 ∧ ¬ (t < 0 ∧ (mn (RB w b) t = 1 ∨ (mn (RB w b) t = 2 ∧ w 4 r = w 4 s ∧ u = t) ∨ (mn (RB w b) t = 2 ∧ w 4 r = w 4 s ∧ w 4 s ≠ 3 ∧ ∃ q, q < (RB w b).ln ∧ inS (RB w b) t q ∧ (RB w b).tm q 0 < 0 ∧ u = (RB w b).tm q 0 ∧ mn (RB w b) ((RB w b).tm q 0) = 2))))) := fun a ha haa => by
        unfold f_Pr_grows_75
        rw [hw1, columnsOf_n hr10, bnd_s, hhd, bnd_s]
        by_cases k3 : w 4 s = 3
        · rw [if_pos k3]
          obtain ⟨v, hv, hv2⟩ := g113 a 0 ha
          refine ⟨v, hv, hv2.imp (fun z => ⟨z.1, by omega, ?_⟩) (fun z => ⟨z.1, fun k => z.2 ?_⟩)⟩
          · rcases z.2 with z2 | z2 | z2
            · exact Or.inl z2
            · by_cases m1 : mn (RB w b) t = 1
              · exact Or.inl m1
              · exact Or.inr (Or.inl ⟨by omega, haa.mp z2.1, z2.2⟩)
            · exact absurd z2.2.1 (by omega)
          · rcases k.2 with k1 | k1 | k1
            · exact Or.inl k1
            · exact Or.inr (Or.inl ⟨haa.mpr k1.2.1, k1.2.2⟩)
            · exact absurd k3 k1.2.2.1
        · rw [if_neg k3, hx, bnd_s]
          obtain ⟨v, hv, hv2⟩ := g113 a x ha
          refine ⟨v, hv, hv2.imp (fun z => ⟨z.1, by omega, ?_⟩) (fun z => ⟨z.1, fun k => z.2 ?_⟩)⟩
          · by_cases m1 : mn (RB w b) t = 1
            · exact Or.inl m1
            · rcases z.2 with z2 | z2 | z2
              · exact Or.inl z2
              · exact Or.inr (Or.inl ⟨by omega, haa.mp z2.1, z2.2⟩)
              · rcases hxx with ⟨x0, -⟩ | ⟨q, q1, q2, q3⟩
                · omega
                · rw [q3] at z2
                  exact Or.inr (Or.inr ⟨by omega, haa.mp z2.1, k3, q, q1, q2, z2.2⟩)
          · rcases k.2 with k1 | k1 | k1
            · exact Or.inl k1
            · exact Or.inr (Or.inl ⟨haa.mpr k1.2.1, k1.2.2⟩)
            · obtain ⟨m2, ka, kb, q, q1, q2, q3, q4, q5⟩ := k1
              refine Or.inr (Or.inr ⟨haa.mpr ka, ?_⟩)
              rcases hxx with ⟨x0, xn⟩ | ⟨q', q1', q2', q3'⟩
              · exact absurd q2 (xn q q1)
              · -- one sum alone has the term
                have a1 := acP_b (R := RB w b) (p := p) (c := (w 3 s).toNat - 1) hp h5 hcs
                rw [← ht] at a1
                have place : ∀ q0, q0 < (RB w b).ln → inS (RB w b) t q0 → ∃ c0, c0 < 3 ∧ acP (RB w b) t (3 * q0 + c0) = true := fun q0 h0 h1 => by
                  rcases h1.2 with z | z
                  · have := acP_b (R := RB w b) (p := q0) (c := 1) h0 h5 (by omega)
                    rw [z] at this
                    exact ⟨1, by decide, this⟩
                  · have := acP_b (R := RB w b) (p := q0) (c := 2) h0 h5 (by omega)
                    rw [z] at this
                    exact ⟨2, by decide, this⟩
                obtain ⟨c0, hc0, a2⟩ := place q q1 q2
                obtain ⟨c0', hc0', a3⟩ := place q' q1' q2'
                have hne : q ≠ p := fun e => by have := q2.1; rw [e, hf] at this; exact absurd this (by decide)
                have hne' : q' ≠ p := fun e => by have := q2'.1; rw [e, hf] at this; exact absurd this (by decide)
                have h3 := cnt_at2 (P := acP (RB w b) t) (n := 18) m2 hpl (pos_lt q1 h5 hc0) (pos_lt q1' h5 hc0') (pos_ne hne hcs hc0) a1 a2 a3
                have eq : q' = q := pos_eq h3 hne' hcs hc0 hc0'
                rw [q3', eq]
                exact ⟨q3, q4, q5⟩
      by_cases hk : w 4 r = w 4 s
      · rw [if_pos hk]
        exact g75 1 (Or.inr rfl) ⟨fun _ => hk, fun _ => rfl⟩
      · rw [if_neg hk]
        exact g75 0 (Or.inl rfl) ⟨fun e => (by cases e), fun e => absurd e hk⟩
    · rw [if_neg (by omega)]
      refine ⟨0, rfl, Or.inr ⟨rfl, fun z => ?_⟩⟩
      rcases z.2 with z2 | z2 | z2
      · omega
      · omega
      · omega
