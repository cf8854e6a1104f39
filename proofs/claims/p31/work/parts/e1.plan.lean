/-! BOTH: the plan of a rule -/
def vfr (f : Nat → Int) : Nat → Nat
  | 0 => 0
  | c + 1 => vfr f c ||| vb (f c)
/-- the columns that are values, or of these variables -/
def kcs (f : Nat → Int) (known : Nat) : Nat → Nat
  | 0 => 0
  | c + 1 => kcs f known c ||| (if 0 ≤ f c ∨ known.testBit (-1 - f c).toNat = true then 2 ^ c else 0)
def pc (n : Nat) : Nat := n % 2 + n / 2 % 2 + n / 4 % 2 + n / 8 % 2 + n / 16 % 2 + n / 32 % 2
theorem bitCount_n : ∀ n : Nat, n < 64 → f_In_bitCount (n : Int) = some ((pc n : Nat) : Int) := by decide +kernel
theorem bits_n : ∀ n : Nat, n < 8 → f_Re_bits (n : Int) = some ((pc n : Nat) : Int) := by decide +kernel
theorem kcs_lt {f : Nat → Int} {known : Nat} : ∀ n, n ≤ 3 → kcs f known n < 2 ^ n := by
  intro n
  induction n with
  | zero => intro _; show 0 < 2 ^ 0; omega
  | succ n ih =>
    intro h
    have h1 := ih (by omega)
    show kcs f known n ||| (if 0 ≤ f n ∨ known.testBit (-1 - f n).toNat = true then 2 ^ n else 0) < 2 ^ (n + 1)
    have h2 : 2 ^ (n + 1) = 2 * 2 ^ n := by rw [Nat.pow_succ, Nat.mul_comm]
    refine Nat.or_lt_two_pow (by omega) ?_
    split
    · omega
    · omega
theorem kcs_8 {f : Nat → Int} {known n : Nat} (h : n ≤ 3) : kcs f known n < 8 := by
  have := kcs_lt (f := f) (known := known) n h
  have : 2 ^ n ≤ 2 ^ 3 := Nat.pow_le_pow_right (by omega) h
  omega
/-- the atom that is taken, of the first places -/
def selP (D : SH) (R : RU) (known taken : Nat) : Nat → Int × Nat
  | 0 => (-1, 0)
  | p + 1 => if R.fm p = 0 ∧ taken.testBit p = false ∧ ((selP D R known taken p).1 = -1 ∨ pc (selP D R known taken p).2 < pc (kcs (R.tm p) known (D.co (R.sj p)))) then ((p : Int), kcs (R.tm p) known (D.co (R.sj p))) else selP D R known taken p
theorem selP_spec {D : SH} (hD : WfD D) {R : RU} {known taken : Nat} : ∀ n, ((selP D R known taken n).1 = -1 ∧ (selP D R known taken n).2 = 0 ∧ ∀ p, p < n → ¬ (R.fm p = 0 ∧ taken.testBit p = false)) ∨ ∃ p, p < n ∧ (selP D R known taken n).1 = (p : Int) ∧ R.fm p = 0 ∧ taken.testBit p = false ∧ (selP D R known taken n).2 = kcs (R.tm p) known (D.co (R.sj p)) := by
  intro n
  induction n with
  | zero => exact Or.inl ⟨rfl, rfl, fun p hp => absurd hp (Nat.not_lt_zero p)⟩
  | succ n ih =>
    unfold selP
    by_cases q : R.fm n = 0 ∧ taken.testBit n = false ∧ ((selP D R known taken n).1 = -1 ∨ pc (selP D R known taken n).2 < pc (kcs (R.tm n) known (D.co (R.sj n))))
    · rw [if_pos q]
      exact Or.inr ⟨n, by omega, rfl, q.1, q.2.1, rfl⟩
    · rw [if_neg q]
      rcases ih with ⟨h1, h2, h3⟩ | ⟨p, h1, h2⟩
      · refine Or.inl ⟨h1, h2, fun p hp z => ?_⟩
        by_cases e : p = n
        · rw [e] at z
          exact q ⟨z.1, z.2, Or.inl h1⟩
        · exact h3 p (by omega) z
      · exact Or.inr ⟨p, by omega, h2⟩
theorem selP_8 {D : SH} (hD : WfD D) {R : RU} {known taken n : Nat} : (selP D R known taken n).2 < 8 := by
  rcases selP_spec hD (R := R) (known := known) (taken := taken) n with ⟨-, h2, -⟩ | ⟨p, -, -, -, -, h2⟩
  · omega
  · rw [h2]
    exact kcs_8 (hD _).1
/-- known variables, taken places, turn by turn -/
def plS (D : SH) (R : RU) : Nat → Nat × Nat
  | 0 => (0, 0)
  | t + 1 => if (selP D R (plS D R t).1 (plS D R t).2 R.ln).1 = -1 then plS D R t else ((plS D R t).1 ||| vfr (R.tm (selP D R (plS D R t).1 (plS D R t).2 R.ln).1.toNat) 3, (plS D R t).2 ||| 2 ^ (selP D R (plS D R t).1 (plS D R t).2 R.ln).1.toNat)
def plQ (D : SH) (R : RU) (t : Nat) : Int × Nat := selP D R (plS D R t).1 (plS D R t).2 R.ln
def atoms (R : RU) : Nat := cnt (fun p => decide (R.fm p = 0)) R.ln
theorem cnt_flip {P P' : Nat → Bool} : ∀ (n s : Nat), s < n → P s = true → P' s = false → (∀ i, i < n → i ≠ s → P' i = P i) → cnt P n = cnt P' n + 1 := by
  intro n
  induction n with
  | zero => intro s hs; exact absurd hs (Nat.not_lt_zero s)
  | succ n ih =>
    intro s hs h1 h2 h3
    show cnt P n + (if P n = true then 1 else 0) = cnt P' n + (if P' n = true then 1 else 0) + 1
    by_cases e : s = n
    · subst e
      rw [h1, h2, cnt_congr (Q := P') (fun i hi => (h3 i (by omega) (by omega)).symm)]
      simp
    · rw [ih s (by omega) h1 h2 (fun i hi => h3 i (by omega)), h3 n (by omega) (fun z => e z.symm)]
      omega
theorem plS_lt {D : SH} (hD : WfD D) {R : RU} (h5 : R.ln ≤ 5) (htm : ∀ p c, p < R.ln → c < 3 → -8 ≤ R.tm p c ∧ R.tm p c < 128) : ∀ t, (plS D R t).1 < 256 ∧ (plS D R t).2 < 32 := by
  intro t
  induction t with
  | zero => show 0 < 256 ∧ 0 < 32; omega
  | succ t ih =>
    have h1 := ih.1
    have h2 := ih.2
    unfold plS
    split
    · exact ih
    · next q =>
      rcases selP_spec hD (R := R) (known := (plS D R t).1) (taken := (plS D R t).2) R.ln with ⟨h1, -⟩ | ⟨p, hp, he, -⟩
      · exact absurd h1 q
      · rw [he, Int.toNat_natCast]
        have hv : vfr (R.tm p) 3 < 256 := by
          have a0 := vb_lt (htm p 0 hp (by omega))
          have a1 := vb_lt (htm p 1 hp (by omega))
          have a2 := vb_lt (htm p 2 hp (by omega))
          show ((0 ||| vb (R.tm p 0)) ||| vb (R.tm p 1)) ||| vb (R.tm p 2) < 256
          exact Nat.or_lt_two_pow (n := 8) (Nat.or_lt_two_pow (n := 8) (Nat.or_lt_two_pow (n := 8) (by omega) a0) a1) a2
        have h2p : 2 ^ p < 32 := Nat.lt_of_le_of_lt (Nat.pow_le_pow_right (by omega) (show p ≤ 4 by omega)) (by decide)
        exact ⟨Nat.or_lt_two_pow (n := 8) h1 hv, Nat.or_lt_two_pow (n := 5) h2 h2p⟩
def utk (D : SH) (R : RU) (t p : Nat) : Bool := decide (R.fm p = 0) && !(plS D R t).2.testBit p
theorem plan_left {D : SH} (hD : WfD D) {R : RU} : ∀ t, t ≤ atoms R → cnt (utk D R t) R.ln + t = atoms R := by
  intro t
  induction t with
  | zero =>
    intro _
    show cnt (utk D R 0) R.ln + 0 = cnt (fun p => decide (R.fm p = 0)) R.ln
    rw [Nat.add_zero]
    refine cnt_congr (fun i hi => ?_)
    show (decide (R.fm i = 0) && !(0 : Nat).testBit i) = decide (R.fm i = 0)
    simp
  | succ t ih =>
    intro ht
    have h1 := ih (by omega)
    rcases selP_spec hD (R := R) (known := (plS D R t).1) (taken := (plS D R t).2) R.ln with ⟨e, -, hno⟩ | ⟨p, hp, he, hf, hu, -⟩
    · have : cnt (utk D R t) R.ln = 0 := by
        have hz : ∀ n, n ≤ R.ln → cnt (utk D R t) n = 0 := fun n => by
          induction n with
          | zero => intro _; rfl
          | succ n ih =>
            intro hn
            show cnt (utk D R t) n + (if utk D R t n = true then 1 else 0) = 0
            have h3 := hno n (by omega)
            have h4 : utk D R t n = false := by
              unfold utk
              by_cases f0 : R.fm n = 0
              · by_cases b : (plS D R t).2.testBit n = true
                · rw [b]; simp
                · exact absurd ⟨f0, by simpa using b⟩ h3
              · simp [f0]
            rw [ih (by omega), h4]
            rfl
        exact hz R.ln (Nat.le_refl _)
      omega
    · have h2 : (plS D R (t + 1)).2 = (plS D R t).2 ||| 2 ^ p := by
        show (if (selP D R (plS D R t).1 (plS D R t).2 R.ln).1 = -1 then plS D R t else ((plS D R t).1 ||| vfr (R.tm (selP D R (plS D R t).1 (plS D R t).2 R.ln).1.toNat) 3, (plS D R t).2 ||| 2 ^ (selP D R (plS D R t).1 (plS D R t).2 R.ln).1.toNat)).2 = _
        rw [if_neg (by omega), he, Int.toNat_natCast]
      have h3 := cnt_flip (P := utk D R t) (P' := utk D R (t + 1)) R.ln p hp (by unfold utk; rw [hu]; simp [hf]) (by
        unfold utk
        rw [h2, Nat.testBit_or, Nat.testBit_two_pow_self]
        simp) (fun i hi hne => by
        unfold utk
        rw [h2, Nat.testBit_or, Nat.testBit_two_pow_of_ne (fun e => hne e.symm)]
        simp)
      omega
/-- in its first turns an atom is taken, then none -/
theorem plan_q {D : SH} (hD : WfD D) {R : RU} {t : Nat} (ht : t < atoms R) : ∃ p, p < R.ln ∧ (plQ D R t).1 = (p : Int) ∧ R.fm p = 0 ∧ (plQ D R t).2 = kcs (R.tm p) (plS D R t).1 (D.co (R.sj p)) ∧ plS D R (t + 1) = ((plS D R t).1 ||| vfr (R.tm p) 3, (plS D R t).2 ||| 2 ^ p) := by
  have h1 := plan_left hD (R := R) t (by omega)
  rcases selP_spec hD (R := R) (known := (plS D R t).1) (taken := (plS D R t).2) R.ln with ⟨e, -, hno⟩ | ⟨p, hp, he, hf, hu, h2⟩
  · exfalso
    have hz : ∀ n, n ≤ R.ln → cnt (utk D R t) n = 0 := fun n => by
      induction n with
      | zero => intro _; rfl
      | succ n ih =>
        intro hn
        show cnt (utk D R t) n + (if utk D R t n = true then 1 else 0) = 0
        have h3 := hno n (by omega)
        have h4 : utk D R t n = false := by
          unfold utk
          by_cases f0 : R.fm n = 0
          · by_cases b : (plS D R t).2.testBit n = true
            · rw [b]; simp
            · exact absurd ⟨f0, by simpa using b⟩ h3
          · simp [f0]
        rw [ih (by omega), h4]
        rfl
    have := hz R.ln (Nat.le_refl _)
    omega
  · refine ⟨p, hp, he, hf, h2, ?_⟩
    show (if (selP D R (plS D R t).1 (plS D R t).2 R.ln).1 = -1 then plS D R t else ((plS D R t).1 ||| vfr (R.tm (selP D R (plS D R t).1 (plS D R t).2 R.ln).1.toNat) 3, (plS D R t).2 ||| 2 ^ (selP D R (plS D R t).1 (plS D R t).2 R.ln).1.toNat)) = _
    rw [if_neg (by omega), he, Int.toNat_natCast]
theorem plan_no {D : SH} (hD : WfD D) {R : RU} : ∀ j, (plQ D R (atoms R + j)).1 = -1 ∧ plS D R (atoms R + j) = plS D R (atoms R) := by
  have h0 : (plQ D R (atoms R)).1 = -1 := by
    have h1 := plan_left hD (R := R) (atoms R) (Nat.le_refl _)
    rcases selP_spec hD (R := R) (known := (plS D R (atoms R)).1) (taken := (plS D R (atoms R)).2) R.ln with ⟨e, -⟩ | ⟨p, hp, he, hf, hu, h2⟩
    · exact e
    · have := cnt_1 (P := utk D R (atoms R)) hp (by unfold utk; rw [hu]; simp [hf])
      omega
  have hs : ∀ j, plS D R (atoms R + j) = plS D R (atoms R) := by
    intro j
    induction j with
    | zero => rfl
    | succ j ih =>
      show (if (selP D R (plS D R (atoms R + j)).1 (plS D R (atoms R + j)).2 R.ln).1 = -1 then plS D R (atoms R + j) else _) = _
      rw [ih]
      exact if_pos h0
  refine fun j => ⟨?_, hs j⟩
  unfold plQ
  rw [hs j]
  exact h0
theorem vfr_vb {f : Nat → Int} : ∀ n k, k ≤ n → (∀ c, k ≤ c → c < n → f c = 0) → vfr f n = vfr f k := by
  intro n
  induction n with
  | zero => intro k hk _; have : k = 0 := by omega
            rw [this]
  | succ n ih =>
    intro k hk h
    by_cases e : k = n + 1
    · rw [e]
    · show vfr f n ||| vb (f n) = _
      have h0 : vb (f n) = 0 := by rw [h n (by omega) (by omega)]; rfl
      rw [h0, Nat.or_zero]
      exact ih k (by omega) (fun c h1 h2 => h c h1 (by omega))
