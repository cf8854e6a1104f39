/-! BOTH: strata, by rules gone through again and again -/
def abv (D : SH) (R : RU) (p : Nat) : Prop := R.fm p = 1 ∨ (R.fm p = 0 ∧ D.ki (R.sj p) ≠ 0 ∧ ¬ Gr D R p)
noncomputable def av (D : SH) (R : RU) (p : Nat) : Nat := by
  classical
  exact if abv D R p then 1 else 0
theorem av_1 {D : SH} {R : RU} {p : Nat} (h : abv D R p) : av D R p = 1 := by unfold av; rw [if_pos h]
theorem av_0 {D : SH} {R : RU} {p : Nat} (h : ¬ abv D R p) : av D R p = 0 := by unfold av; rw [if_neg h]
theorem av_le {D : SH} {R : RU} {p : Nat} : av D R p ≤ 1 := by unfold av; split <;> omega
def SolL (D : SH) (RR : RU → Prop) (lv : Int → Nat) : Prop := ∀ R, RR R → ∀ p, p < R.ln → R.fm p ≤ 1 → lv (R.sj p) + av D R p ≤ lv R.tg
def lvf (L : Nat → Nat) : Int → Nat := fun r => if 0 ≤ r ∧ r < 10 then L r.toNat else 0
theorem lvf_n {L : Nat → Nat} {q : Nat} (h : q < 10) : lvf L (q : Int) = L q := by
  unfold lvf
  rw [if_pos (by omega), Int.toNat_natCast]
theorem sol_lev {D : SH} {RR : RU → Prop} {lv : Int → Nat} (hW : ∀ R, RR R → WfR D R) (h : SolL D RR lv) : Lev D lv RR := by
  intro R hR
  refine ⟨hW R hR, fun p hp => ⟨fun f0 => ?_, fun f1 => ?_⟩⟩
  · have h1 := h R hR p hp (by omega)
    refine ⟨by omega, fun hk hg => ?_⟩
    rw [av_1 (Or.inr ⟨f0, hk, hg⟩)] at h1
    omega
  · have h1 := h R hR p hp (by omega)
    rw [av_1 (Or.inl f1)] at h1
    omega
theorem RE.abv' {D : SH} {R R' : RU} (hD : WfD D) (hR : WfR D R) (h : RE R R') {p : Nat} (hp : p < R.ln) : abv D R' p ↔ abv D R p := by
  obtain ⟨a, b, d⟩ := h.2.1 p hp
  unfold abv
  rw [a, b]
  refine or_congr Iff.rfl (and_congr_right fun f0 => and_congr_right fun hk => not_congr ⟨fun g => ?_, fun g => h.gr hD hR hp f0 g⟩)
  exact h.symm.gr hD (h.wf hR) (by rw [h.1]; exact hp) (by rw [a]; exact f0) g
theorem RS.sol {D : SH} {RR RR' : RU → Prop} {lv : Int → Nat} (hD : WfD D) (hW : ∀ R, RR R → WfR D R) (h : RS RR RR') (hS : SolL D RR lv) : SolL D RR' lv := by
  intro R' hR' p hp hf
  obtain ⟨R, hR, e⟩ := h.2 R' hR'
  rw [e.1] at hp
  obtain ⟨a, b, d⟩ := e.2.1 p hp
  rw [a] at hf
  have h1 := hS R hR p hp hf
  have h2 : av D R' p = av D R p := by
    by_cases q : abv D R p
    · rw [av_1 q, av_1 ((e.abv' hD (hW R hR) hp).mpr q)]
    · rw [av_0 q, av_0 (fun z => q ((e.abv' hD (hW R hR) hp).mp z))]
  rw [b, e.2.2.1, h2]
  exact h1
/-- one literal's raise -/
noncomputable def lsv (D : SH) (R : RU) (L : Nat → Nat) (p : Nat) : Nat := if R.fm p ≤ 1 then L (R.sj p).toNat + av D R p else 0
noncomputable def stp (D : SH) (R : RU) (L : Nat → Nat) (p : Nat) : Nat → Nat := if L R.tg.toNat < lsv D R L p then upn L R.tg.toNat (lsv D R L p) else L
noncomputable def lits (D : SH) (R : RU) (L : Nat → Nat) : Nat → Nat → Nat
  | 0 => L
  | n + 1 => stp D R (lits D R L n) n
theorem stp_le {D : SH} {R : RU} {L : Nat → Nat} {p : Nat} (q : Nat) : L q ≤ stp D R L p q := by
  unfold stp
  split
  · by_cases e : q = R.tg.toNat
    · subst e; rw [upn_eq]; omega
    · rw [upn_ne e]; exact Nat.le_refl _
  · exact Nat.le_refl _
theorem stp_eq {D : SH} {R : RU} {L : Nat → Nat} {p : Nat} : stp D R L p = L ↔ lsv D R L p ≤ L R.tg.toNat := by
  unfold stp
  constructor
  · intro h
    refine Classical.byContradiction fun hn => ?_
    rw [if_pos (by omega)] at h
    have := congrFun h R.tg.toNat
    rw [upn_eq] at this
    omega
  · intro h
    rw [if_neg (by omega)]
theorem stp_sol {D : SH} {RR : RU → Prop} {R : RU} {L : Nat → Nat} {p : Nat} {lv : Int → Nat} (hS : SolL D RR lv) (hR : RR R) (hp : p < R.ln) (hsj : R.fm p ≤ 1 → ∃ s : Nat, s < 10 ∧ R.sj p = (s : Int)) (htg : ∃ r : Nat, r < 10 ∧ R.tg = (r : Int)) (h : ∀ q : Nat, q < 10 → L q ≤ lv (q : Int)) : ∀ q : Nat, q < 10 → stp D R L p q ≤ lv (q : Int) := by
  intro q hq
  unfold stp
  split
  · obtain ⟨r, hr, er⟩ := htg
    by_cases e : q = R.tg.toNat
    · rw [e, upn_eq]
      unfold lsv
      by_cases f : R.fm p ≤ 1
      · rw [if_pos f]
        obtain ⟨s, hs, es⟩ := hsj f
        have h1 := hS R hR p hp f
        have h2 := h s hs
        rw [es, er] at h1
        rw [es, er, Int.toNat_natCast, Int.toNat_natCast]
        omega
      · rw [if_neg f]; omega
    · rw [upn_ne e]; exact h q hq
  · exact h q hq
theorem stp_bd {D : SH} {R : RU} {L : Nat → Nat} {p b : Nat} (hsj : R.fm p ≤ 1 → ∃ s : Nat, s < 10 ∧ R.sj p = (s : Int)) (h : ∀ q : Nat, q < 10 → L q ≤ b) : ∀ q : Nat, q < 10 → stp D R L p q ≤ b + 1 := by
  intro q hq
  have h0 := h q hq
  unfold stp
  split
  · by_cases e : q = R.tg.toNat
    · rw [e, upn_eq]
      unfold lsv
      by_cases f : R.fm p ≤ 1
      · rw [if_pos f]
        obtain ⟨s, hs, es⟩ := hsj f
        have h2 := h s hs
        have h3 := av_le (D := D) (R := R) (p := p)
        rw [es, Int.toNat_natCast]
        omega
      · rw [if_neg f]; omega
    · rw [upn_ne e]; omega
  · omega
theorem sumN_mono {f g : Nat → Nat} (h : ∀ i, f i ≤ g i) : ∀ n, sumN f n ≤ sumN g n := by
  intro n
  induction n with
  | zero => exact Nat.le_refl _
  | succ n ih =>
    have := h n
    show sumN f n + f n ≤ sumN g n + g n
    omega
theorem sumN_lt {f g : Nat → Nat} (h : ∀ i, f i ≤ g i) : ∀ n i, i < n → f i < g i → sumN f n < sumN g n := by
  intro n
  induction n with
  | zero => intro i hi; omega
  | succ n ih =>
    intro i hi hlt
    have h1 := h n
    have h2 := sumN_mono h n
    show sumN f n + f n < sumN g n + g n
    by_cases e : i = n
    · subst e; omega
    · have := ih i (by omega) hlt; omega
theorem stp_lt {D : SH} {R : RU} {L : Nat → Nat} {p : Nat} (h : stp D R L p ≠ L) : L R.tg.toNat < lsv D R L p ∧ stp D R L p = upn L R.tg.toNat (lsv D R L p) := by
  have h1 : L R.tg.toNat < lsv D R L p := by
    refine Classical.byContradiction fun hn => h (stp_eq.mpr (by omega))
  exact ⟨h1, by unfold stp; rw [if_pos h1]⟩
theorem lits_le {D : SH} {R : RU} {L : Nat → Nat} : ∀ (n q : Nat), L q ≤ lits D R L n q := by
  intro n
  induction n with
  | zero => intro q; exact Nat.le_refl _
  | succ n ih => intro q; exact Nat.le_trans (ih q) (stp_le q)
theorem lits_eq {D : SH} {R : RU} {L : Nat → Nat} : ∀ n, lits D R L n = L → ∀ p, p < n → lsv D R L p ≤ L R.tg.toNat := by
  intro n
  induction n with
  | zero => intro _ p hp; omega
  | succ n ih =>
    intro h p hp
    have h0 : lits D R L n = L := funext fun q => Nat.le_antisymm (by
      have h1 := stp_le (D := D) (R := R) (L := lits D R L n) (p := n) q
      have h2 := congrFun h q
      have h3 : lits D R L (n + 1) q = stp D R (lits D R L n) n q := rfl
      omega) (lits_le n q)
    by_cases e : p = n
    · subst e
      have h1 : stp D R (lits D R L p) p = L := h
      rw [h0] at h1
      exact stp_eq.mp h1
    · exact ih h0 p (by omega)
/-- all rules gone through once -/
noncomputable def rls (D : SH) (F : Nat → RU) (G : Nat → Prop) (L : Nat → Nat) : Nat → Nat → Nat
  | 0 => L
  | n + 1 => by
    classical
    exact if G n then lits D (F n) (rls D F G L n) (F n).ln else rls D F G L n
theorem rls_s1 {D : SH} {F : Nat → RU} {G : Nat → Prop} {L : Nat → Nat} {n : Nat} (h : G n) : rls D F G L (n + 1) = lits D (F n) (rls D F G L n) (F n).ln := if_pos h
theorem rls_s0 {D : SH} {F : Nat → RU} {G : Nat → Prop} {L : Nat → Nat} {n : Nat} (h : ¬ G n) : rls D F G L (n + 1) = rls D F G L n := if_neg h
theorem rls_le {D : SH} {F : Nat → RU} {G : Nat → Prop} {L : Nat → Nat} : ∀ (n q : Nat), L q ≤ rls D F G L n q := by
  intro n
  induction n with
  | zero => intro q; exact Nat.le_refl _
  | succ n ih =>
    intro q
    by_cases h : G n
    · rw [rls_s1 h]; exact Nat.le_trans (ih q) (lits_le _ q)
    · rw [rls_s0 h]; exact ih q
theorem rls_eq {D : SH} {F : Nat → RU} {G : Nat → Prop} {L : Nat → Nat} : ∀ n, rls D F G L n = L → ∀ i, i < n → G i → ∀ p, p < (F i).ln → lsv D (F i) L p ≤ L (F i).tg.toNat := by
  intro n
  induction n with
  | zero => intro _ i hi; omega
  | succ n ih =>
    intro h i hi hG
    have h0 : rls D F G L n = L := funext fun q => Nat.le_antisymm (by
      have h2 := congrFun h q
      by_cases g : G n
      · rw [rls_s1 g] at h2
        have h1 := lits_le (D := D) (R := F n) (L := rls D F G L n) (F n).ln q
        omega
      · rw [rls_s0 g] at h2; omega) (rls_le n q)
    by_cases e : i = n
    · subst e
      rw [rls_s1 hG, h0] at h
      exact lits_eq _ h
    · exact ih h0 i (by omega) hG
/-- rules of a program, not removed -/
def Rof (F : Nat → RU) (G : Nat → Prop) (m : Nat) : RU → Prop := fun R => ∃ i, i < m ∧ G i ∧ F i = R
/-- rules whose relations are in range -/
def Rng (R : RU) : Prop := (∃ r : Nat, r < 10 ∧ R.tg = (r : Int)) ∧ ∀ p, p < R.ln → R.fm p ≤ 1 → ∃ s : Nat, s < 10 ∧ R.sj p = (s : Int)
theorem lits_sol {D : SH} {RR : RU → Prop} {R : RU} {lv : Int → Nat} {L : Nat → Nat} (hS : SolL D RR lv) (hR : RR R) (hg : Rng R) (h : ∀ q : Nat, q < 10 → L q ≤ lv (q : Int)) : ∀ n, n ≤ R.ln → ∀ q : Nat, q < 10 → lits D R L n q ≤ lv (q : Int) := by
  intro n
  induction n with
  | zero => intro _; exact h
  | succ n ih => intro hn; exact stp_sol hS hR (by omega) (hg.2 n (by omega)) hg.1 (ih (by omega))
theorem lits_bd {D : SH} {R : RU} {L : Nat → Nat} {b : Nat} (hg : Rng R) (h : ∀ q : Nat, q < 10 → L q ≤ b) : ∀ n, n ≤ R.ln → ∀ q : Nat, q < 10 → lits D R L n q ≤ b + n := by
  intro n
  induction n with
  | zero => intro _; exact h
  | succ n ih => intro hn; exact stp_bd (hg.2 n (by omega)) (ih (by omega))
theorem rls_sol {D : SH} {F : Nat → RU} {G : Nat → Prop} {m : Nat} {lv : Int → Nat} {L : Nat → Nat} (hS : SolL D (Rof F G m) lv) (hg : ∀ i, i < m → Rng (F i)) (h : ∀ q : Nat, q < 10 → L q ≤ lv (q : Int)) : ∀ n, n ≤ m → ∀ q : Nat, q < 10 → rls D F G L n q ≤ lv (q : Int) := by
  intro n
  induction n with
  | zero => intro _; exact h
  | succ n ih =>
    intro hn
    by_cases g : G n
    · rw [rls_s1 g]
      exact lits_sol hS ⟨n, by omega, g, rfl⟩ (hg n (by omega)) (ih (by omega)) _ (Nat.le_refl _)
    · rw [rls_s0 g]
      exact ih (by omega)
theorem rls_bd {D : SH} {F : Nat → RU} {G : Nat → Prop} {m : Nat} {L : Nat → Nat} {b : Nat} (hg : ∀ i, i < m → Rng (F i) ∧ (F i).ln ≤ 5) (h : ∀ q : Nat, q < 10 → L q ≤ b) : ∀ n, n ≤ m → ∀ q : Nat, q < 10 → rls D F G L n q ≤ b + 5 * n := by
  intro n
  induction n with
  | zero => intro _ q hq; have := h q hq; show L q ≤ _; omega
  | succ n ih =>
    intro hn q hq
    by_cases g : G n
    · rw [rls_s1 g]
      have := lits_bd (D := D) (hg n (by omega)).1 (ih (by omega)) _ (Nat.le_refl _) q hq
      have h5 := (hg n (by omega)).2
      omega
    · rw [rls_s0 g]
      have := ih (by omega) q hq
      omega
theorem rls_fix {D : SH} {F : Nat → RU} {G : Nat → Prop} {m : Nat} {L : Nat → Nat} (hg : ∀ i, i < m → Rng (F i)) (h : rls D F G L m = L) : SolL D (Rof F G m) (lvf L) := by
  rintro R ⟨i, hi, hG, rfl⟩ p hp hf
  have h1 := rls_eq m h i hi hG p hp
  obtain ⟨⟨r, hr, er⟩, hs⟩ := hg i hi
  obtain ⟨s, hs10, es⟩ := hs p hp hf
  unfold lsv at h1
  rw [if_pos hf, es, er, Int.toNat_natCast, Int.toNat_natCast] at h1
  rw [es, er, lvf_n hs10, lvf_n hr]
  exact h1
theorem lits_out {D : SH} {R : RU} {L : Nat → Nat} (hg : ∃ r : Nat, r < 10 ∧ R.tg = (r : Int)) : ∀ (n q : Nat), 10 ≤ q → lits D R L n q = L q := by
  intro n
  induction n with
  | zero => intro q _; rfl
  | succ n ih =>
    intro q hq
    obtain ⟨r, hr, er⟩ := hg
    show stp D R (lits D R L n) n q = L q
    unfold stp
    split
    · rw [upn_ne (by rw [er]; omega)]
      exact ih q hq
    · exact ih q hq
theorem rls_out {D : SH} {F : Nat → RU} {G : Nat → Prop} {m : Nat} {L : Nat → Nat} (hg : ∀ i, i < m → ∃ r : Nat, r < 10 ∧ (F i).tg = (r : Int)) : ∀ n, n ≤ m → ∀ q, 10 ≤ q → rls D F G L n q = L q := by
  intro n
  induction n with
  | zero => intro _ q _; rfl
  | succ n ih =>
    intro hn q hq
    by_cases g : G n
    · rw [rls_s1 g, lits_out (hg n (by omega)) _ q hq]
      exact ih (by omega) q hq
    · rw [rls_s0 g]
      exact ih (by omega) q hq
/-- a solution that is the least has no more than 9 -/
theorem sol_9 {D : SH} {RR : RU → Prop} {L : Nat → Nat} (hg : ∀ R, RR R → Rng R) (hS : SolL D RR (lvf L)) (hl : ∀ lv, SolL D RR lv → ∀ q : Nat, q < 10 → L q ≤ lv (q : Int)) : ∀ q, q < 10 → L q ≤ 9 := by
  intro q0 hq0
  refine Classical.byContradiction fun hn => ?_
  have hex : ∃ k, k < 10 ∧ ∀ q, q < 10 → L q ≠ k := by
    refine Classical.byContradiction fun hc => ?_
    have hf : ∀ k, ∃ q, k < 10 → q < 10 ∧ L q = k := fun k => by
      by_cases hk : k < 10
      · refine Classical.byContradiction fun hc2 => hc ⟨k, hk, fun q hq e => hc2 ⟨q, fun _ => ⟨hq, e⟩⟩⟩
      · exact ⟨0, fun z => absurd z hk⟩
    have hnd : (q0 :: (List.range 10).map (fun k => (hf k).choose)).Nodup := by
      refine List.nodup_cons.mpr ⟨fun hm => ?_, nodup_map List.nodup_range (fun x y hx hy e => ?_)⟩
      · obtain ⟨k, hk, e⟩ := List.mem_map.mp hm
        have hk := List.mem_range.mp hk
        have h1 := ((hf k).choose_spec hk).2
        have e : (hf k).choose = q0 := e
        rw [e] at h1
        omega
      · have hx := List.mem_range.mp hx
        have hy := List.mem_range.mp hy
        have a := ((hf x).choose_spec hx).2
        have b := ((hf y).choose_spec hy).2
        have e : (hf x).choose = (hf y).choose := e
        rw [← a, ← b, e]
    have := nodup_len 10 _ hnd (fun x hx => by
      rcases List.mem_cons.mp hx with e | hx
      · rw [e]; exact hq0
      · obtain ⟨k, hk, e⟩ := List.mem_map.mp hx
        have hk := List.mem_range.mp hk
        rw [← e]
        exact ((hf k).choose_spec hk).1)
    simp at this
  obtain ⟨k, hk, hno⟩ := hex
  have hS' : SolL D RR (lvf (fun q => if k < L q then L q - 1 else L q)) := by
    intro R hR p hp hf
    have h1 := hS R hR p hp hf
    obtain ⟨⟨r, hr, er⟩, hs⟩ := hg R hR
    obtain ⟨s, hs10, es⟩ := hs p hp hf
    have ha := av_le (D := D) (R := R) (p := p)
    rw [es, er, lvf_n hs10, lvf_n hr] at h1 ⊢
    have n1 := hno s hs10
    have n2 := hno r hr
    show (if k < L s then L s - 1 else L s) + _ ≤ if k < L r then L r - 1 else L r
    split <;> split <;> omega
  have := hl _ hS' q0 hq0
  rw [lvf_n hq0] at this
  have h2 : (if k < L q0 then L q0 - 1 else L q0) = L q0 - 1 := if_pos (by omega)
  rw [h2] at this
  omega
/-- what both find -/
def StR (D : SH) (RR : RU → Prop) (L : Nat → Nat) (v : Int) : Prop := (∀ lv, SolL D RR lv → ∀ q : Nat, q < 10 → L q ≤ lv (q : Int)) ∧ ((v = 1 ∧ SolL D RR (lvf L)) ∨ (v = 0 ∧ ∃ q, q < 10 ∧ 10 ≤ L q))
theorem StR_same {D : SH} {RR RR' : RU → Prop} {L L' : Nat → Nat} {v v' : Int} (hD : WfD D) (hW : ∀ R, RR R → WfR D R) (hg : ∀ R, RR R → Rng R) (hRS : RS RR RR') (h : StR D RR L v) (h' : StR D RR' L' v') : v = v' ∧ (v = 1 → (∀ q, q < 10 → L q = L' q) ∧ ∀ q, q < 10 → L q ≤ 9) := by
  have hW' : ∀ R, RR' R → WfR D R := fun R' hR' => by obtain ⟨R, hR, e⟩ := hRS.2 R' hR'; exact e.wf (hW R hR)
  have s1 : ∀ {lv}, SolL D RR lv → SolL D RR' lv := fun z => hRS.sol hD hW z
  have s2 : ∀ {lv}, SolL D RR' lv → SolL D RR lv := fun z => hRS.symm.sol hD hW' z
  rcases h.2 with ⟨a, b⟩ | ⟨a, q, b, d⟩
  · have h9 := sol_9 hg b h.1
    rcases h'.2 with ⟨a', b'⟩ | ⟨a', q', b', d'⟩
    · refine ⟨by omega, fun _ => ⟨fun q hq => ?_, h9⟩⟩
      have k1 := h.1 _ (s2 b') q hq
      have k2 := h'.1 _ (s1 b) q hq
      rw [lvf_n hq] at k1 k2
      omega
    · have k2 := h'.1 _ (s1 b) q' b'
      rw [lvf_n b'] at k2
      have := h9 q' b'
      omega
  · rcases h'.2 with ⟨a', b'⟩ | ⟨a', q', b', d'⟩
    · have hg' : ∀ R, RR' R → Rng R := fun R' hR' => by
        obtain ⟨R, hR, e⟩ := hRS.2 R' hR'
        have := hg R hR
        refine ⟨by rw [e.2.2.1]; exact this.1, fun p hp hf => ?_⟩
        rw [e.1] at hp
        obtain ⟨x, y, z⟩ := e.2.1 p hp
        rw [x] at hf
        rw [y]
        exact this.2 p hp hf
      have h9 := sol_9 hg' b' h'.1
      have k1 := h.1 _ (s2 b') q b
      rw [lvf_n b] at k1
      have := h9 q b
      omega
    · exact ⟨by omega, fun e => by omega⟩
