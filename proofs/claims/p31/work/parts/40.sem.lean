/-! MEANING: rules over a set of tuples; where terms are; what grows -/
theorem lp_step {S R : Type} {F : S → Option (S ⊕ R)} {s s' : S} (h : F s = some (.inl s')) : lp F s = lp F s' := by
  rw [lp_unfold, h]; rfl
theorem lp_out {S R : Type} {F : S → Option (S ⊕ R)} {s : S} {r : R} (h : F s = some (.inr r)) : lp F s = some r := by
  rw [lp_unfold, h]; rfl
theorem lp_go {S R : Type} {F : S → Option (S ⊕ R)} (g : Nat → S) (r : R) : ∀ (n : Nat), (∀ i, i < n → F (g i) = some (.inl (g (i + 1)))) → F (g n) = some (.inr r) → lp F (g 0) = some r := by
  have key : ∀ (k n : Nat), k ≤ n → (∀ i, i < n → F (g i) = some (.inl (g (i + 1)))) → F (g n) = some (.inr r) → lp F (g (n - k)) = some r := by
    intro k
    induction k with
    | zero => intro n _ _ hn; exact lp_out hn
    | succ k ih =>
      intro n hk h hn
      have h1 := h (n - (k + 1)) (by omega)
      rw [show n - (k + 1) + 1 = n - k by omega] at h1
      rw [lp_step h1]
      exact ih n (by omega) h hn
  intro n h hn
  have := key n n (Nat.le_refl n) h hn
  rwa [Nat.sub_self] at this
def cnt (P : Nat → Bool) : Nat → Nat
  | 0 => 0
  | n + 1 => cnt P n + (if P n = true then 1 else 0)
theorem cnt_mono {P : Nat → Bool} {n m : Nat} (h : n ≤ m) : cnt P n ≤ cnt P m := by
  induction h with
  | refl => exact Nat.le_refl _
  | step _ ih => exact Nat.le_trans ih (Nat.le_add_right _ _)
theorem cnt_1 {P : Nat → Bool} {n i : Nat} (hi : i < n) (h : P i = true) : cnt P i + 1 ≤ cnt P n := by
  refine Nat.le_trans ?_ (cnt_mono (show i + 1 ≤ n from hi))
  show _ ≤ cnt P i + (if P i = true then 1 else 0)
  rw [if_pos h]
  exact Nat.le_refl _
theorem cnt_3 {P : Nat → Bool} {n i j k : Nat} (hij : i < j) (hjk : j < k) (hk : k < n) (pi : P i = true) (pj : P j = true) (pk : P k = true) : 3 ≤ cnt P n := by
  have h1 := cnt_1 (n := j) hij pi
  have h2 := cnt_1 (n := k) hjk pj
  have h3 := cnt_1 (n := n) hk pk
  omega
theorem cnt_two {P : Nat → Bool} {n i j : Nat} (hij : i < j) (hj : j < n) (pi : P i = true) (pj : P j = true) : 2 ≤ cnt P n := by
  have h1 := cnt_1 (n := j) hij pi
  have h2 := cnt_1 (n := n) hj pj
  omega
theorem cnt_at1 {P : Nat → Bool} {n i j : Nat} (h : cnt P n = 1) (hi : i < n) (hj : j < n) (pi : P i = true) (pj : P j = true) : i = j := by
  rcases Nat.lt_trichotomy i j with q | q | q
  · have := cnt_two q hj pi pj; omega
  · exact q
  · have := cnt_two q hi pj pi; omega
theorem cnt_at2 {P : Nat → Bool} {n i j k : Nat} (h : cnt P n = 2) (hi : i < n) (hj : j < n) (hk : k < n) (hij : i ≠ j) (pi : P i = true) (pj : P j = true) (pk : P k = true) : k = i ∨ k = j := by
  refine Classical.byContradiction fun hc => ?_
  have h1 : k ≠ i := fun e => hc (Or.inl e)
  have h2 : k ≠ j := fun e => hc (Or.inr e)
  have key : ∀ a b c : Nat, a < n → b < n → c < n → a < b → b < c → P a = true → P b = true → P c = true → False := fun a b c ha hb hcc hab hbc pa pb pc => by
    have := cnt_3 hab hbc hcc pa pb pc
    omega
  rcases Nat.lt_trichotomy i j with q | q | q
  · rcases Nat.lt_trichotomy k i with q2 | q2 | q2
    · exact key k i j hk hi hj q2 q pk pi pj
    · exact h1 q2
    · rcases Nat.lt_trichotomy k j with q3 | q3 | q3
      · exact key i k j hi hk hj q2 q3 pi pk pj
      · exact h2 q3
      · exact key i j k hi hj hk q q3 pi pj pk
  · exact hij q
  · rcases Nat.lt_trichotomy k j with q2 | q2 | q2
    · exact key k j i hk hj hi q2 q pk pj pi
    · exact h2 q2
    · rcases Nat.lt_trichotomy k i with q3 | q3 | q3
      · exact key j k i hj hk hi q2 q3 pj pk pi
      · exact h1 q3
      · exact key j i k hj hi hk q q3 pj pi pk
/-- a rule: how many literals, their forms, subjects, terms; the head's relation and terms -/
abbrev RU : Type := Nat × (Nat → Int) × (Nat → Int) × (Nat → Nat → Int) × Int × (Nat → Int)
abbrev RU.ln (R : RU) : Nat := R.1
abbrev RU.fm (R : RU) : Nat → Int := R.2.1
abbrev RU.sj (R : RU) : Nat → Int := R.2.2.1
abbrev RU.tm (R : RU) : Nat → Nat → Int := R.2.2.2.1
abbrev RU.tg (R : RU) : Int := R.2.2.2.2.1
abbrev RU.ht (R : RU) : Nat → Int := R.2.2.2.2.2
/-- a schema: columns, kinds, keys by relation -/
abbrev SH : Type := (Int → Nat) × (Int → Nat) × (Int → Nat)
abbrev SH.co (D : SH) : Int → Nat := D.1
abbrev SH.ki (D : SH) : Int → Nat := D.2.1
abbrev SH.ky (D : SH) : Int → Nat := D.2.2
def SH.kq (D : SH) (r : Int) : Nat := if D.ki r = 0 then 0 else D.co r
def ta (R : RU) (i : Nat) : Int := if i < 15 then R.tm (i / 3) (i % 3) else R.ht (i - 15)
def acP (R : RU) (t : Int) (i : Nat) : Bool := (decide (i / 3 < R.ln) || decide (15 ≤ i)) && decide (ta R i = t)
/-- how often a term is in a rule -/
def mn (R : RU) (t : Int) : Nat := cnt (acP R t) 18
theorem acP_b {R : RU} {p c : Nat} (hp : p < R.ln) (h5 : R.ln ≤ 5) (hc : c < 3) : acP R (R.tm p c) (3 * p + c) = true := by
  have h1 : (3 * p + c) / 3 = p := by omega
  have h2 : (3 * p + c) % 3 = c := by omega
  have h3 : 3 * p + c < 15 := by omega
  unfold acP ta
  rw [h1, h2, if_pos h3]
  simp [hp]
theorem acP_h {R : RU} {c : Nat} : acP R (R.ht c) (15 + c) = true := by
  have h3 : ¬ 15 + c < 15 := by omega
  have h4 : 15 + c - 15 = c := by omega
  unfold acP ta
  rw [if_neg h3, h4]
  simp
/-- an atom of a relation that is not plain grows -/
def Gr (D : SH) (R : RU) (p : Nat) : Prop :=
  let t := R.tm p (D.co (R.sj p) - 1)
  t < 0 ∧ (mn R t = 1 ∨ (mn R t = 2 ∧ D.ki R.tg = D.ki (R.sj p) ∧ R.ht (D.co R.tg - 1) = t) ∨
    (mn R t = 2 ∧ D.ki R.tg = D.ki (R.sj p) ∧ D.ki (R.sj p) ≠ 3 ∧ ∃ q, q < R.ln ∧ R.fm q = 3 ∧ (R.tm q 1 = t ∨ R.tm q 2 = t) ∧ R.tm q 0 < 0 ∧ R.ht (D.co R.tg - 1) = R.tm q 0 ∧ mn R (R.tm q 0) = 2))
/-- a rule as they are entered -/
def WfR (D : SH) (R : RU) : Prop := R.ln ≤ 5 ∧ (∀ p, p < R.ln → 0 ≤ R.fm p ∧ R.fm p ≤ 3) ∧
  (∀ p, p < R.ln → R.fm p ≤ 1 → 1 ≤ D.co (R.sj p) ∧ ∀ c, D.co (R.sj p) ≤ c → c < 3 → R.tm p c = 0) ∧
  (∀ p, p < R.ln → R.fm p = 2 → R.tm p 2 = 0) ∧
  (1 ≤ D.co R.tg ∧ ∀ c, D.co R.tg ≤ c → c < 3 → R.ht c = 0) ∧
  (∀ p c, p < R.ln → c < 3 → -8 ≤ R.tm p c ∧ R.tm p c < 128) ∧ (∀ c, c < 3 → -8 ≤ R.ht c ∧ R.ht c < 128)
def WfD (D : SH) : Prop := ∀ r, D.co r ≤ 3 ∧ D.ki r ≤ 3
theorem gr_b {D : SH} {R : RU} {p : Nat} (hD : WfD D) (hR : WfR D R) (hp : p < R.ln) (hf : R.fm p = 0) (hg : Gr D R p) {p' c : Nat} (hp' : p' < R.ln) (hc : c < 3) (he : R.tm p' c = R.tm p (D.co (R.sj p) - 1)) :
    (p' = p ∧ c = D.co (R.sj p) - 1) ∨ (R.fm p' = 3 ∧ (c = 1 ∨ c = 2) ∧ R.tm p' 0 < 0 ∧ R.ht (D.co R.tg - 1) = R.tm p' 0 ∧ mn R (R.tm p' 0) = 2 ∧ D.ki R.tg = D.ki (R.sj p) ∧ D.ki (R.sj p) ≠ 3) := by
  obtain ⟨h5, -, hat, -⟩ := hR
  have hco : 1 ≤ D.co (R.sj p) := (hat p hp (by omega)).1
  have hc3 := (hD (R.sj p)).1
  have a1 := acP_b (c := D.co (R.sj p) - 1) hp h5 (by omega)
  have a2 := acP_b (c := c) hp' h5 hc
  rw [he] at a2
  have l1 : 3 * p + (D.co (R.sj p) - 1) < 18 := by omega
  have l2 : 3 * p' + c < 18 := by omega
  rcases hg.2 with h | ⟨h, hk, hl⟩ | ⟨h, hk, hk3, q, hq, hfq, hqt, hq0, hql, hqm⟩
  · have := cnt_at1 h l1 l2 a1 a2
    left; omega
  · have a3 := acP_h (R := R) (c := D.co R.tg - 1)
    rw [hl] at a3
    have l3 : 15 + (D.co R.tg - 1) < 18 := by have := (hD R.tg).1; omega
    have := cnt_at2 h l1 l3 l2 (by omega) a1 a3 a2
    rcases this with e | e
    · left; omega
    · omega
  · rcases hqt with hqt | hqt
    · have a3 := acP_b (c := 1) hq h5 (by omega)
      rw [hqt] at a3
      have hne : q ≠ p := fun e => by rw [e, hf] at hfq; cases hfq
      have := cnt_at2 h l1 (show 3 * q + 1 < 18 by omega) l2 (by omega) a1 a3 a2
      rcases this with e | e
      · left; omega
      · right
        have e1 : p' = q := by omega
        have e2 : c = 1 := by omega
        subst e1
        exact ⟨hfq, Or.inl e2, hq0, hql, hqm, hk, hk3⟩
    · have a3 := acP_b (c := 2) hq h5 (by omega)
      rw [hqt] at a3
      have hne : q ≠ p := fun e => by rw [e, hf] at hfq; cases hfq
      have := cnt_at2 h l1 (show 3 * q + 2 < 18 by omega) l2 (by omega) a1 a3 a2
      rcases this with e | e
      · left; omega
      · right
        have e1 : p' = q := by omega
        have e2 : c = 2 := by omega
        subst e1
        exact ⟨hfq, Or.inr e2, hq0, hql, hqm, hk, hk3⟩
theorem gr_h {D : SH} {R : RU} {p : Nat} (hD : WfD D) (hR : WfR D R) (hp : p < R.ln) (hf : R.fm p = 0) (hg : Gr D R p) {c : Nat} (hc : c < 3) (he : R.ht c = R.tm p (D.co (R.sj p) - 1)) :
    c = D.co R.tg - 1 ∧ D.ki R.tg = D.ki (R.sj p) := by
  obtain ⟨h5, -, hat, -⟩ := hR
  have hco : 1 ≤ D.co (R.sj p) := (hat p hp (by omega)).1
  have hc3 := (hD (R.sj p)).1
  have a1 := acP_b (c := D.co (R.sj p) - 1) hp h5 (by omega)
  have a2 := acP_h (R := R) (c := c)
  rw [he] at a2
  have l1 : 3 * p + (D.co (R.sj p) - 1) < 18 := by omega
  have l2 : 15 + c < 18 := by omega
  rcases hg.2 with h | ⟨h, hk, hl⟩ | ⟨h, hk, hk3, q, hq, hfq, hqt, hq0, hql, hqm⟩
  · have := cnt_at1 h l1 l2 a1 a2
    omega
  · have a3 := acP_h (R := R) (c := D.co R.tg - 1)
    rw [hl] at a3
    have l3 : 15 + (D.co R.tg - 1) < 18 := by have := (hD R.tg).1; omega
    have := cnt_at2 h l1 l3 l2 (by omega) a1 a3 a2
    exact ⟨by omega, hk⟩
  · rcases hqt with hqt | hqt
    · have a3 := acP_b (c := 1) hq h5 (by omega)
      rw [hqt] at a3
      have hne : q ≠ p := fun e => by rw [e, hf] at hfq; cases hfq
      have := cnt_at2 h l1 (show 3 * q + 1 < 18 by omega) l2 (by omega) a1 a3 a2
      omega
    · have a3 := acP_b (c := 2) hq h5 (by omega)
      rw [hqt] at a3
      have hne : q ≠ p := fun e => by rw [e, hf] at hfq; cases hfq
      have := cnt_at2 h l1 (show 3 * q + 2 < 18 by omega) l2 (by omega) a1 a3 a2
      omega
/-- the first term of such a sum is there and last in the head alone -/
theorem su_b {D : SH} {R : RU} {q : Nat} (hD : WfD D) (hR : WfR D R) (hq : q < R.ln) (hl : R.ht (D.co R.tg - 1) = R.tm q 0) (hm : mn R (R.tm q 0) = 2) {p' c : Nat} (hp' : p' < R.ln) (hc : c < 3) (he : R.tm p' c = R.tm q 0) : p' = q ∧ c = 0 := by
  obtain ⟨h5, -⟩ := hR
  have a1 := acP_b (c := 0) hq h5 (by omega)
  have a2 := acP_b (c := c) hp' h5 hc
  rw [he] at a2
  have a3 := acP_h (R := R) (c := D.co R.tg - 1)
  rw [hl] at a3
  have l3 : 15 + (D.co R.tg - 1) < 18 := by have := (hD R.tg).1; omega
  have := cnt_at2 hm (show 3 * q + 0 < 18 by omega) l3 (show 3 * p' + c < 18 by omega) (by omega) a1 a3 a2
  omega
theorem su_h {D : SH} {R : RU} {q : Nat} (hD : WfD D) (hR : WfR D R) (hq : q < R.ln) (hl : R.ht (D.co R.tg - 1) = R.tm q 0) (hm : mn R (R.tm q 0) = 2) {c : Nat} (hc : c < 3) (he : R.ht c = R.tm q 0) : c = D.co R.tg - 1 := by
  obtain ⟨h5, -⟩ := hR
  have a1 := acP_b (c := 0) hq h5 (by omega)
  have a2 := acP_h (R := R) (c := c)
  rw [he] at a2
  have a3 := acP_h (R := R) (c := D.co R.tg - 1)
  rw [hl] at a3
  have l3 : 15 + (D.co R.tg - 1) < 18 := by have := (hD R.tg).1; omega
  have := cnt_at2 hm (show 3 * q + 0 < 18 by omega) l3 (show 15 + c < 18 by omega) (by omega) a1 a3 a2
  omega
