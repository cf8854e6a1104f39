/-! THE REFERENCE'S STRATA: what grows -/
def sumN (f : Nat → Nat) : Nat → Nat
  | 0 => 0
  | n + 1 => sumN f n + f n
theorem cnt_stop {P : Nat → Bool} {m : Nat} : ∀ n, m ≤ n → (∀ i, m ≤ i → i < n → P i = false) → cnt P n = cnt P m := by
  intro n
  induction n with
  | zero => intro h _; have : m = 0 := by omega
            rw [this]
  | succ n ih =>
    intro h hz
    by_cases q : m ≤ n
    · show cnt P n + _ = _
      rw [ih q (fun i h1 h2 => hz i h1 (by omega)), if_neg (by rw [hz n q (by omega)]; decide)]
      rfl
    · have : m = n + 1 := by omega
      rw [this]
def lc3 (R : RU) (t : Int) (p : Nat) : Nat := cnt (fun c => decide (R.tm p c = t)) 3
theorem cnt_swap {P : Nat → Nat → Bool} : ∀ n, cnt (fun p => P p 0) n + cnt (fun p => P p 1) n + cnt (fun p => P p 2) n = sumN (fun p => cnt (P p) 3) n := by
  intro n
  induction n with
  | zero => rfl
  | succ n ih =>
    show (cnt (fun p => P p 0) n + (if P n 0 = true then 1 else 0)) + (cnt (fun p => P p 1) n + (if P n 1 = true then 1 else 0)) + (cnt (fun p => P p 2) n + (if P n 2 = true then 1 else 0)) = sumN (fun p => cnt (P p) 3) n + (0 + (if P n 0 = true then 1 else 0) + (if P n 1 = true then 1 else 0) + (if P n 2 = true then 1 else 0))
    omega
theorem mn_rows {R : RU} {t : Int} (h5 : R.ln ≤ 5) : mn R t = cnt (fun c => decide (R.ht c = t)) 3 + sumN (lc3 R t) R.ln := by
  rw [mn_cols h5]
  have h := cnt_swap (P := fun p c => decide (R.tm p c = t)) R.ln
  have e : sumN (lc3 R t) R.ln = sumN (fun p => cnt (fun c => decide (R.tm p c = t)) 3) R.ln := rfl
  rw [e, ← h]
  have e0 : cnt (fun c => decide (R.ht c = t)) 3 = (if R.ht 0 = t then 1 else 0) + (if R.ht 1 = t then 1 else 0) + (if R.ht 2 = t then 1 else 0) := by
    show 0 + _ + _ + _ = _
    simp only [decide_eq_true_eq, Nat.zero_add]
  rw [e0]
  unfold cc3
  omega
theorem sumN_le {f : Nat → Nat} {m : Nat} (h : ∀ i, f i ≤ m) : ∀ n, sumN f n ≤ n * m := by
  intro n
  induction n with
  | zero => exact Nat.zero_le _
  | succ n ih =>
    have := h n
    show sumN f n + f n ≤ (n + 1) * m
    rw [Nat.add_mul, Nat.one_mul]
    omega
/-- a rule of the reference as it may be -/
def RuB (w : World) (ru : Nat) : Prop := ru < 19 ∧ WfT w ∧ w 16 ru = ((RBB w ru).ln : Int) ∧ WfR (SA w) (RBB w ru)
theorem width_n {w : World} {ru p : Nat} (h : RuB w ru) (hp : p < (RBB w ru).ln) : ∃ wd : Nat, f_Re_width w ((5 * ru + p : Nat) : Int) = some (wd : Int) ∧ wd ≤ 3 ∧ ∀ c, wd ≤ c → c < 3 → (RBB w ru).tm p c = 0 := by
  obtain ⟨hru, hT, h16, h5, hfm, hat, hc2, -⟩ := h
  have e17 : w 17 (5 * ru + p) = (RBB w ru).fm p := rfl
  have e18 : w 18 (5 * ru + p) = (RBB w ru).sj p := rfl
  have hf := hfm p hp
  unfold f_Re_width
  rw [gd_t ⟨by omega, by omega⟩, Int.toNat_natCast, e17, e18]
  by_cases f2 : (RBB w ru).fm p = 2
  · rw [if_pos f2]
    exact ⟨2, rfl, by omega, fun c h1 h2 => by rw [show c = 2 by omega]; exact hc2 p hp f2⟩
  · rw [if_neg f2, gd_t ⟨by omega, by omega⟩]
    by_cases f3 : (RBB w ru).fm p = 3
    · rw [if_pos f3]
      exact ⟨3, rfl, by omega, fun c h1 h2 => by omega⟩
    · rw [if_neg f3, gd_t ⟨by omega, by omega⟩]
      obtain ⟨hc1, hz⟩ := hat p hp (by omega)
      obtain ⟨s, hs, hs10, hs3, hsco⟩ := SA_co_in hc1
      have h3 := (hT s hs10).1
      rw [hsco] at hz
      rw [hs, gd_t ⟨by omega, by omega⟩, Int.toNat_natCast]
      exact ⟨(w 3 s).toNat, by congr 1; omega, by omega, fun c h1 h2 => hz c h1 h2⟩
theorem idx3 {k c : Nat} (hk : k < 95) (hc : c < 3) : wr ((wr (3 * (k : Int))) + (c : Int)) = ((3 * k + c : Nat) : Int) := by
  rw [wr_of (x := 3 * (k : Int)) ⟨by omega, by omega⟩, wr_of (x := 3 * (k : Int) + (c : Int)) ⟨by omega, by omega⟩]
  omega
theorem idx5 {ru p : Nat} (hk : ru < 19) (hc : p < 6) : wr ((wr (5 * (ru : Int))) + (p : Int)) = ((5 * ru + p : Nat) : Int) := by
  rw [wr_of (x := 5 * (ru : Int)) ⟨by omega, by omega⟩, wr_of (x := 5 * (ru : Int) + (p : Int)) ⟨by omega, by omega⟩]
  omega
theorem times_n {w : World} {ru r : Nat} {t : Int} (h : RuB w ru) (ht : t < 0) (htg : (RBB w ru).tg = (r : Int)) (hr : r < 10) : f_Re_times w (ru : Int) t = some ((mn (RBB w ru) t : Nat) : Int) := by
  obtain ⟨hru, hT, h16, hWf⟩ := id h
  obtain ⟨h5, hfm, hat, hc2, ⟨hh1, hh0⟩, -, -⟩ := id hWf
  obtain ⟨R, hR⟩ : ∃ R, R = RBB w ru := ⟨_, rfl⟩
  have e14 : w 14 ru = (r : Int) := htg
  have e15 : ∀ c, w 15 (3 * ru + c) = R.ht c := fun c => by rw [hR]; rfl
  have e19 : ∀ p c, w 19 (3 * (5 * ru + p) + c) = R.tm p c := fun p c => by rw [hR]; rfl
  have hco : (SA w).co (RBB w ru).tg = (w 3 r).toNat := by rw [htg, SA_co hr]
  have h3r := (hT r hr).1
  have hlc : ∀ p, lc3 R t p ≤ 3 := fun p => cnt_le 3
  -- one literal
  have lit1 : ∀ (x p : Nat), x ≤ 100 → p < R.ln → f_Re_times_73 w (ru : Int) t (x : Int) ((5 * ru + p : Nat) : Int) 0 = some (Sum.inl (((x + lc3 R t p : Nat) : Int), ((5 * ru + (p + 1) : Nat) : Int))) := fun x p hx hp => by
    obtain ⟨wd, hw1, hw2, hw3⟩ := width_n h (by rw [← hR]; exact hp)
    rw [← hR] at hw3
    have hp5 : p < 5 := by rw [hR] at hp; omega
    have hst : lc3 R t p = cnt (fun c => decide (R.tm p c = t)) wd := cnt_stop 3 hw2 (fun i h1 h2 => by
      rw [hw3 i h1 h2]
      exact decide_eq_false (by omega))
    have hg := lp_go (F := fun z : (Int × Int) => f_Re_times_73B w (ru : Int) t z.1 ((5 * ru + p : Nat) : Int) z.2) (fun i => (((x + cnt (fun c => decide (R.tm p c = t)) i : Nat) : Int), (i : Int))) (Sum.inl (((x + lc3 R t p : Nat) : Int), ((5 * ru + (p + 1) : Nat) : Int))) wd (fun i hi => by
      show f_Re_times_73B w (ru : Int) t ((x + cnt (fun c => decide (R.tm p c = t)) i : Nat) : Int) ((5 * ru + p : Nat) : Int) (i : Int) = some (Sum.inl (((x + (cnt (fun c => decide (R.tm p c = t)) i + _) : Nat) : Int), ((i + 1 : Nat) : Int)))
      have hle := cnt_le (P := fun c => decide (R.tm p c = t)) i
      unfold f_Re_times_73B f_Re_times_106
      rw [hw1, bnd_s, if_neg (by omega), idx3 (by omega) (by omega), gd_t ⟨by omega, by omega⟩, Int.toNat_natCast, e19]
      by_cases q : R.tm p i = t
      · rw [if_pos q, if_pos (decide_eq_true q), bl_s, bl_s, wr_of (x := ((x + cnt (fun c => decide (R.tm p c = t)) i : Nat) : Int) + 1) ⟨by omega, by omega⟩, wr_of (x := (i : Int) + 1) ⟨by omega, by omega⟩]
        rfl
      · rw [if_neg q, if_neg (by simpa using q), bl_s, bl_s, wr_of (x := ((x + cnt (fun c => decide (R.tm p c = t)) i : Nat) : Int) + 0) ⟨by omega, by omega⟩, wr_of (x := (i : Int) + 1) ⟨by omega, by omega⟩]
        rfl) (by
      show f_Re_times_73B w (ru : Int) t ((x + cnt (fun c => decide (R.tm p c = t)) wd : Nat) : Int) ((5 * ru + p : Nat) : Int) (wd : Int) = _
      unfold f_Re_times_73B
      rw [hw1, bnd_s, if_pos (by omega), bl_s, wr_of (x := ((5 * ru + p : Nat) : Int) + 1) ⟨by omega, by omega⟩, hst]
      rfl)
    exact hg
  have lits : ∀ x : Nat, x ≤ 3 → f_Re_times_55 w (ru : Int) t (x : Int) ((5 * ru : Nat) : Int) = some ((x + sumN (lc3 R t) R.ln : Nat) : Int) := fun x hx => by
    have hl5 : R.ln ≤ 5 := by rw [hR]; exact h5
    have h16' : w 16 ru = (R.ln : Int) := by rw [hR]; exact h16
    have hend : ∀ k : Nat, k ≤ 5 → wr ((wr (5 * (ru : Int))) + w 16 ru) = ((5 * ru + R.ln : Nat) : Int) := fun k _ => by rw [h16', idx5 hru (by omega)]
    have hg := lp_go (F := fun z : (Int × Int) => f_Re_times_55B w (ru : Int) t z.1 z.2) (fun i => (((x + sumN (lc3 R t) i : Nat) : Int), ((5 * ru + i : Nat) : Int))) ((x + sumN (lc3 R t) R.ln : Nat) : Int) R.ln (fun i hi => by
      show f_Re_times_55B w (ru : Int) t ((x + sumN (lc3 R t) i : Nat) : Int) ((5 * ru + i : Nat) : Int) = some (Sum.inl (((x + (sumN (lc3 R t) i + lc3 R t i) : Nat) : Int), ((5 * ru + (i + 1) : Nat) : Int)))
      have hs := sumN_le hlc i
      unfold f_Re_times_55B
      rw [gd_t ⟨by omega, by omega⟩, Int.toNat_natCast, hend 0 (by omega), if_neg (by omega), lit1 _ i (by omega) hi, Nat.add_assoc]) (by
      show f_Re_times_55B w (ru : Int) t ((x + sumN (lc3 R t) R.ln : Nat) : Int) ((5 * ru + R.ln : Nat) : Int) = _
      unfold f_Re_times_55B
      rw [gd_t ⟨by omega, by omega⟩, Int.toNat_natCast, hend 0 (by omega), if_pos (by omega)])
    exact hg
  have hst : cnt (fun c => decide (R.ht c = t)) 3 = cnt (fun c => decide (R.ht c = t)) (w 3 r).toNat := cnt_stop 3 (by omega) (fun i h1 h2 => by
    have := hh0 i (by rw [hco]; exact h1) h2
    rw [← hR] at this
    rw [this]
    exact decide_eq_false (by omega))
  have hc3 := cnt_le (P := fun c => decide (R.ht c = t)) (w 3 r).toNat
  have hg := lp_go (F := fun z : (Int × Int) => f_Re_times_5B w (ru : Int) t z.1 z.2) (fun i => (((cnt (fun c => decide (R.ht c = t)) i : Nat) : Int), (i : Int))) ((mn R t : Nat) : Int) (w 3 r).toNat (fun i hi => by
    show f_Re_times_5B w (ru : Int) t ((cnt (fun c => decide (R.ht c = t)) i : Nat) : Int) (i : Int) = some (Sum.inl (((cnt (fun c => decide (R.ht c = t)) i + _ : Nat) : Int), ((i + 1 : Nat) : Int)))
    have hle := cnt_le (P := fun c => decide (R.ht c = t)) i
    unfold f_Re_times_5B f_Re_times_42
    rw [gd_t ⟨by omega, by omega⟩, Int.toNat_natCast, e14, gd_t ⟨by omega, by omega⟩, Int.toNat_natCast, if_neg (by omega), idx3 (by omega) (by omega), gd_t ⟨by omega, by omega⟩, Int.toNat_natCast, e15]
    by_cases q : R.ht i = t
    · rw [if_pos q, if_pos (decide_eq_true q), bl_s, bl_s, wr_of (x := ((cnt (fun c => decide (R.ht c = t)) i : Nat) : Int) + 1) ⟨by omega, by omega⟩, wr_of (x := (i : Int) + 1) ⟨by omega, by omega⟩]
      rfl
    · rw [if_neg q, if_neg (by simpa using q), bl_s, bl_s, wr_of (x := ((cnt (fun c => decide (R.ht c = t)) i : Nat) : Int) + 0) ⟨by omega, by omega⟩, wr_of (x := (i : Int) + 1) ⟨by omega, by omega⟩]
      rfl) (by
    show f_Re_times_5B w (ru : Int) t ((cnt (fun c => decide (R.ht c = t)) (w 3 r).toNat : Nat) : Int) (((w 3 r).toNat : Nat) : Int) = _
    unfold f_Re_times_5B
    have e5 : wr (5 * (ru : Int)) = ((5 * ru : Nat) : Int) := by rw [wr_of (x := 5 * (ru : Int)) ⟨by omega, by omega⟩]; omega
    rw [gd_t ⟨by omega, by omega⟩, Int.toNat_natCast, e14, gd_t ⟨by omega, by omega⟩, Int.toNat_natCast, if_pos (by omega), bl_s, e5, lits _ (by omega), bnd_s, mn_rows (by rw [hR]; exact h5), hst])
  rw [← hR]
  exact hg
theorem lastB_n {w : World} {ru r : Nat} (h : RuB w ru) (htg : (RBB w ru).tg = (r : Int)) (hr : r < 10) : f_Re_lastOfHead w (ru : Int) = some ((RBB w ru).ht ((w 3 r).toNat - 1)) := by
  obtain ⟨hru, hT, h16, hWf⟩ := id h
  have hh1 := hWf.2.2.2.2.1.1
  have hco : (SA w).co (RBB w ru).tg = (w 3 r).toNat := by rw [htg, SA_co hr]
  have h3r := (hT r hr).1
  have e14 : w 14 ru = (r : Int) := htg
  have i1 : wr ((wr ((wr (3 * (ru : Int))) + w 3 r)) - 1) = ((3 * ru + ((w 3 r).toNat - 1) : Nat) : Int) := by
    rw [wr_of (x := 3 * (ru : Int)) ⟨by omega, by omega⟩, wr_of (x := 3 * (ru : Int) + w 3 r) ⟨by omega, by omega⟩, wr_of (x := 3 * (ru : Int) + w 3 r - 1) ⟨by omega, by omega⟩]
    omega
  unfold f_Re_lastOfHead
  rw [gd_t ⟨by omega, by omega⟩, Int.toNat_natCast, e14, gd_t ⟨by omega, by omega⟩, Int.toNat_natCast, i1, gd_t ⟨by omega, by omega⟩, Int.toNat_natCast]
  rfl
/-- whether an atom grows, as the reference finds it -/
theorem growsB_n {w : World} {ru p r : Nat} (h : RuB w ru) (htg : (RBB w ru).tg = (r : Int)) (hr10 : r < 10) (hp : p < (RBB w ru).ln) (hf : (RBB w ru).fm p = 0) : ∃ v, f_Re_grows w (ru : Int) ((5 * ru + p : Nat) : Int) = some v ∧ ((v = 1 ∧ Gr (SA w) (RBB w ru) p) ∨ (v = 0 ∧ ¬ Gr (SA w) (RBB w ru) p)) := by
  obtain ⟨hru, hT, h16, hWf⟩ := id h
  obtain ⟨h5, hfm, hat, hc2, ⟨hh1, hh0⟩, htr, -⟩ := id hWf
  obtain ⟨hc1, -⟩ := hat p hp (by omega)
  obtain ⟨s, hs, hs10, hs3, hsco⟩ := SA_co_in hc1
  have hSs := hT s hs10
  have hSr := hT r hr10
  have hp5 : p < 5 := by omega
  have hco : (SA w).co (RBB w ru).tg = (w 3 r).toNat := by rw [htg, SA_co hr10]
  have e14 : w 14 ru = (r : Int) := htg
  have e18 : w 18 (5 * ru + p) = (s : Int) := hs
  have hlast := lastB_n h htg hr10
  obtain ⟨t, ht⟩ : ∃ t, t = (RBB w ru).tm p ((w 3 s).toNat - 1) := ⟨_, rfl⟩
  obtain ⟨u, hu⟩ : ∃ u, u = (RBB w ru).ht ((w 3 r).toNat - 1) := ⟨_, rfl⟩
  rw [← hu] at hlast
  have e19 : w 19 (3 * (5 * ru + p) + ((w 3 s).toNat - 1)) = t := by rw [ht]; rfl
  have i1 : wr ((wr ((wr (3 * ((5 * ru + p : Nat) : Int))) + w 3 s)) - 1) = ((3 * (5 * ru + p) + ((w 3 s).toNat - 1) : Nat) : Int) := by
    rw [wr_of (x := 3 * ((5 * ru + p : Nat) : Int)) ⟨by omega, by omega⟩, wr_of (x := 3 * ((5 * ru + p : Nat) : Int) + w 3 s) ⟨by omega, by omega⟩, wr_of (x := 3 * ((5 * ru + p : Nat) : Int) + w 3 s - 1) ⟨by omega, by omega⟩]
    omega
  have i18 : 3 * (5 * ru + p) + ((w 3 s).toNat - 1) < 285 := by omega
  have tm1 : ∀ y : Int, y < 0 → f_Re_times w (ru : Int) y = some ((mn (RBB w ru) y : Nat) : Int) := fun y hy => times_n h hy htg hr10
  obtain ⟨a, ha, haa⟩ : ∃ a : Int, (a = 0 ∨ a = 1) ∧ (a = 1 ↔ w 4 r = w 4 s) := by
    by_cases q : w 4 r = w 4 s
    · exact ⟨1, Or.inr rfl, fun _ => q, fun _ => rfl⟩
    · exact ⟨0, Or.inl rfl, fun e => absurd e (by decide), fun e => absurd e q⟩
  let P : Nat → Prop := fun q => mn (RBB w ru) t = 2 ∧ inS (RBB w ru) t q ∧ w 4 s ≠ 3 ∧ (RBB w ru).tm q 0 < 0 ∧ a = 1 ∧ u = (RBB w ru).tm q 0 ∧ mn (RBB w ru) ((RBB w ru).tm q 0) = 2
  let G : Prop := mn (RBB w ru) t = 1 ∨ (mn (RBB w ru) t = 2 ∧ a = 1 ∧ u = t)
  have hGr : Gr (SA w) (RBB w ru) p ↔ t < 0 ∧ (G ∨ ∃ q, q < (RBB w ru).ln ∧ P q) := by
    have e1 : (SA w).co ((RBB w ru).sj p) = (w 3 s).toNat := hsco
    have e2 : (SA w).ki ((RBB w ru).sj p) = (w 4 s).toNat := by rw [hs, SA_ki hs10]
    have e3 : (SA w).ki (RBB w ru).tg = (w 4 r).toNat := by rw [htg, SA_ki hr10]
    have k1 : (w 4 r).toNat = (w 4 s).toNat ↔ a = 1 := by rw [haa]; omega
    have k2 : (w 4 s).toNat ≠ 3 ↔ w 4 s ≠ 3 := by omega
    unfold Gr
    simp only [e1, e2, e3, hco, ← ht, ← hu, k1, k2]
    constructor
    · rintro ⟨x, b1 | b1 | ⟨b1, b2, b3, q, q1, q2, q3, q4, q5, q6⟩⟩
      · exact ⟨x, Or.inl (Or.inl b1)⟩
      · exact ⟨x, Or.inl (Or.inr b1)⟩
      · exact ⟨x, Or.inr ⟨q, q1, b1, ⟨q2, q3⟩, b3, q4, b2, q5, q6⟩⟩
    · rintro ⟨x, (b1 | b1) | ⟨q, q1, b1, ⟨q2, q3⟩, b3, q4, b2, q5, q6⟩⟩
      · exact ⟨x, Or.inl b1⟩
      · exact ⟨x, Or.inr (Or.inl b1)⟩
      · exact ⟨x, Or.inr (Or.inr ⟨b1, b2, b3, q, q1, q2, q3, q4, q5, q6⟩)⟩
  rw [hGr]
  have h16' := h16
  have hend : wr ((wr (5 * (ru : Int))) + w 16 ru) = ((5 * ru + (RBB w ru).ln : Nat) : Int) := by rw [h16', idx5 hru (by omega)]
  have a01 : a = 0 ∨ a = 1 := ha
  -- one literal
  have one : ∀ (q : Nat) (x : Int), q < (RBB w ru).ln → (x = 0 ∨ x = 1) → ∃ x', f_Re_grows_113B w (ru : Int) (w 4 s) t ((mn (RBB w ru) t : Nat) : Int) a x ((5 * ru + q : Nat) : Int) = some (Sum.inl (x', ((5 * ru + (q + 1) : Nat) : Int))) ∧ ((x' = 1 ∧ (x = 1 ∨ P q)) ∨ (x' = 0 ∧ x = 0 ∧ ¬ P q)) := fun q x hq hx => by
    have hq5 : q < 5 := Nat.lt_of_lt_of_le hq h5
    have f19 : ∀ c, w 19 (3 * (5 * ru + q) + c) = (RBB w ru).tm q c := fun c => rfl
    have f17 : w 17 (5 * ru + q) = (RBB w ru).fm q := rfl
    have j0 : wr (3 * ((5 * ru + q : Nat) : Int)) = ((3 * (5 * ru + q) + 0 : Nat) : Int) := by
      rw [wr_of (x := 3 * ((5 * ru + q : Nat) : Int)) ⟨by omega, by omega⟩]; omega
    have j1 : wr (((3 * (5 * ru + q) + 0 : Nat) : Int) + 1) = ((3 * (5 * ru + q) + 1 : Nat) : Int) := by
      rw [wr_of (x := ((3 * (5 * ru + q) + 0 : Nat) : Int) + 1) ⟨by omega, by omega⟩]; omega
    have j2 : wr (((3 * (5 * ru + q) + 0 : Nat) : Int) + 2) = ((3 * (5 * ru + q) + 2 : Nat) : Int) := by
      rw [wr_of (x := ((3 * (5 * ru + q) + 0 : Nat) : Int) + 2) ⟨by omega, by omega⟩]; omega
    have out : ∀ v : Int, f_Re_grows_246 w (ru : Int) (w 4 s) t ((mn (RBB w ru) t : Nat) : Int) a ((5 * ru + q : Nat) : Int) v = some (Sum.inl (v, ((5 * ru + (q + 1) : Nat) : Int))) := fun v => by
      unfold f_Re_grows_246
      rw [bl_s, wr_of (x := ((5 * ru + q : Nat) : Int) + 1) ⟨by omega, by omega⟩]
      rfl
    have g187 : ∀ s0 : Int, (s0 = 0 ∨ s0 = 1) → (s0 = 1 ↔ inS (RBB w ru) t q) → ∃ x', f_Re_grows_187 w (ru : Int) (w 4 s) t ((mn (RBB w ru) t : Nat) : Int) a x ((5 * ru + q : Nat) : Int) ((RBB w ru).tm q 0) s0 = some (Sum.inl (x', ((5 * ru + (q + 1) : Nat) : Int))) ∧ ((x' = 1 ∧ (x = 1 ∨ P q)) ∨ (x' = 0 ∧ x = 0 ∧ ¬ P q)) := fun s0 hs0 hs0i => by
      unfold f_Re_grows_187 f_Re_grows_241 f_Re_grows_245
      by_cases x0 : x = 0
      · rw [if_pos x0]
        by_cases m2 : mn (RBB w ru) t = 2
        · rw [if_pos (by rw [m2]; rfl)]
          by_cases s00 : s0 = 0
          · rw [if_pos s00, out]
            exact ⟨0, rfl, Or.inr ⟨rfl, x0, fun z => by have := hs0i.mpr z.2.1; rw [s00] at this; exact absurd this (by decide)⟩⟩
          · rw [if_neg s00]
            have hin := hs0i.mp (hs0.resolve_left s00)
            by_cases k3 : w 4 s = 3
            · rw [if_pos k3, out]
              exact ⟨0, rfl, Or.inr ⟨rfl, x0, fun z => z.2.2.1 k3⟩⟩
            · rw [if_neg k3]
              by_cases y0 : 0 ≤ (RBB w ru).tm q 0
              · rw [if_pos y0, out]
                exact ⟨0, rfl, Or.inr ⟨rfl, x0, fun z => absurd z.2.2.2.1 (Int.not_lt.mpr y0)⟩⟩
              · rw [if_neg y0]
                by_cases a0 : a = 0
                · rw [if_pos a0, out]
                  exact ⟨0, rfl, Or.inr ⟨rfl, x0, fun z => by have := z.2.2.2.2.1; rw [a0] at this; exact absurd this (by decide)⟩⟩
                · rw [if_neg a0, hlast, bnd_s]
                  by_cases uy : u = (RBB w ru).tm q 0
                  · rw [if_pos uy, tm1 _ (Int.not_le.mp y0), bnd_s]
                    by_cases my : mn (RBB w ru) ((RBB w ru).tm q 0) = 2
                    · rw [if_pos (by rw [my]; rfl), out]
                      exact ⟨1, rfl, Or.inl ⟨rfl, Or.inr ⟨m2, hin, k3, Int.not_le.mp y0, a01.resolve_left a0, uy, my⟩⟩⟩
                    · rw [if_neg (fun e => my (by exact Int.ofNat.inj e)), out]
                      exact ⟨0, rfl, Or.inr ⟨rfl, x0, fun z => my z.2.2.2.2.2.2⟩⟩
                  · rw [if_neg uy, out]
                    exact ⟨0, rfl, Or.inr ⟨rfl, x0, fun z => uy z.2.2.2.2.2.1⟩⟩
        · rw [if_neg (fun e => m2 (by exact Int.ofNat.inj e)), out]
          exact ⟨0, rfl, Or.inr ⟨rfl, x0, fun z => m2 z.1⟩⟩
      · rw [if_neg x0, out]
        exact ⟨1, rfl, Or.inl ⟨rfl, Or.inl (hx.resolve_left x0)⟩⟩
    have hlt : (5 * ru + q : Nat) < 5 * ru + (RBB w ru).ln := by omega
    have hq95 : 5 * ru + q < 95 := by omega
    unfold f_Re_grows_113B f_Re_grows_182 f_Re_grows_186
    rw [gd_t ⟨by omega, by omega⟩, Int.toNat_natCast, hend, if_neg (by omega), j0, gd_t ⟨by omega, by omega⟩, bl_s, Int.toNat_natCast, Int.toNat_natCast, f19 0, gd_t ⟨by omega, by omega⟩, f17]
    by_cases f3 : (RBB w ru).fm q = 3
    · rw [if_pos f3, j1, gd_t ⟨by omega, by omega⟩, Int.toNat_natCast, f19 1]
      by_cases t1 : (RBB w ru).tm q 1 = t
      · rw [if_pos t1]
        exact g187 1 (Or.inr rfl) ⟨fun _ => ⟨f3, Or.inl t1⟩, fun _ => rfl⟩
      · rw [if_neg t1, j2, gd_t ⟨by omega, by omega⟩, Int.toNat_natCast, f19 2]
        by_cases t2 : (RBB w ru).tm q 2 = t
        · rw [if_pos t2]
          exact g187 1 (Or.inr rfl) ⟨fun _ => ⟨f3, Or.inr t2⟩, fun _ => rfl⟩
        · rw [if_neg t2]
          exact g187 0 (Or.inl rfl) ⟨fun e => absurd e (by decide), fun z => absurd z.2 (fun k => k.elim t1 t2)⟩
    · rw [if_neg f3]
      exact g187 0 (Or.inl rfl) ⟨fun e => absurd e (by decide), fun z => absurd z.1 f3⟩
  have loop : ∀ (j k : Nat) (x : Int), k + j = (RBB w ru).ln → (x = 0 ∨ x = 1) → (x = 1 ↔ (G ∨ ∃ q, q < k ∧ P q)) → ∃ y, f_Re_grows_113 w (ru : Int) (w 4 s) t ((mn (RBB w ru) t : Nat) : Int) a x ((5 * ru + k : Nat) : Int) = some y ∧ (y = 0 ∨ y = 1) ∧ (y = 1 ↔ (G ∨ ∃ q, q < (RBB w ru).ln ∧ P q)) := by
    intro j
    induction j with
    | zero =>
      intro k x hk hx hxx
      have e : k = (RBB w ru).ln := hk
      subst e
      refine ⟨x, ?_, hx, hxx⟩
      unfold f_Re_grows_113
      refine lp_out ?_
      show f_Re_grows_113B w (ru : Int) (w 4 s) t ((mn (RBB w ru) t : Nat) : Int) a x ((5 * ru + (RBB w ru).ln : Nat) : Int) = _
      unfold f_Re_grows_113B
      rw [gd_t ⟨by omega, by omega⟩, Int.toNat_natCast, hend, if_pos (Int.le_refl _), gd_t hx]
    | succ j ih =>
      intro k x hk hx hxx
      obtain ⟨x', e1, e2⟩ := one k x (by rw [← hk]; exact Nat.lt_add_of_pos_right (Nat.succ_pos j)) hx
      have hx' : x' = 0 ∨ x' = 1 := e2.elim (fun z => Or.inr z.1) (fun z => Or.inl z.1)
      obtain ⟨y, e3, e4, e5⟩ := ih (k + 1) x' (by rw [← hk]; exact Nat.succ_add_eq_add_succ k j) hx' (by
        constructor
        · intro z
          rcases e2 with ⟨-, k1⟩ | ⟨k1, -⟩
          · rcases k1 with k1 | k1
            · rcases hxx.mp k1 with k2 | ⟨q, q1, q2⟩
              · exact Or.inl k2
              · exact Or.inr ⟨q, Nat.lt_succ_of_lt q1, q2⟩
            · exact Or.inr ⟨k, Nat.lt_succ_self k, k1⟩
          · rw [z] at k1; exact absurd k1 (by decide)
        · intro z
          rcases e2 with ⟨k1, -⟩ | ⟨k1, k2, k3⟩
          · exact k1
          · exfalso
            rcases z with z | ⟨q, q1, q2⟩
            · have := hxx.mpr (Or.inl z); rw [k2] at this; exact absurd this (by decide)
            · rcases Nat.lt_succ_iff_lt_or_eq.mp q1 with q3 | q3
              · have := hxx.mpr (Or.inr ⟨q, q3, q2⟩); rw [k2] at this; exact absurd this (by decide)
              · rw [q3] at q2; exact k3 q2)
      refine ⟨y, ?_, e4, e5⟩
      rw [← e3]
      unfold f_Re_grows_113
      exact lp_step (s := (x, ((5 * ru + k : Nat) : Int))) e1
  unfold f_Re_grows
  rw [gd_t ⟨by omega, by omega⟩, Int.toNat_natCast, e18, gd_t ⟨by omega, by omega⟩, bl_s, Int.toNat_natCast, gd_t ⟨by omega, by omega⟩, gd_t ⟨by omega, by omega⟩, i1, gd_t ⟨Int.natCast_nonneg _, by omega⟩, bl_s, Int.toNat_natCast, e19]
  by_cases ht0 : t < 0
  · rw [if_pos ht0, tm1 t ht0, bnd_s, gd_t ⟨by omega, by omega⟩, Int.toNat_natCast, e14, gd_t ⟨by omega, by omega⟩, Int.toNat_natCast]
    have e5 : wr (5 * (ru : Int)) = ((5 * ru + 0 : Nat) : Int) := by rw [wr_of (x := 5 * (ru : Int)) ⟨by omega, by omega⟩]; omega
    have g106 : ∀ x : Int, (x = 0 ∨ x = 1) → (x = 1 ↔ G) → ∃ v, f_Re_grows_106 w (ru : Int) (w 4 s) t ((mn (RBB w ru) t : Nat) : Int) a x = some v ∧ ((v = 1 ∧ t < 0 ∧ (G ∨ ∃ q, q < (RBB w ru).ln ∧ P q)) ∨ (v = 0 ∧ ¬ (t < 0 ∧ (G ∨ ∃ q, q < (RBB w ru).ln ∧ P q)))) := fun x hx hxG => by
      obtain ⟨y, k1, k2, k3⟩ := loop (RBB w ru).ln 0 x (Nat.zero_add _) hx ⟨fun z => Or.inl (hxG.mp z), fun z => hxG.mpr (z.elim (fun k => k) (fun ⟨q, q1, _⟩ => absurd q1 (Nat.not_lt_zero q)))⟩
      unfold f_Re_grows_106
      rw [bl_s, e5]
      refine ⟨y, k1, ?_⟩
      rcases k2 with k2 | k2
      · exact Or.inr ⟨k2, fun z => by have := k3.mpr z.2; rw [k2] at this; exact absurd this (by decide)⟩
      · exact Or.inl ⟨k2, ht0, k3.mp k2⟩
    have g72 : ∃ v, f_Re_grows_72 w (ru : Int) (w 4 s) t ((mn (RBB w ru) t : Nat) : Int) a = some v ∧ ((v = 1 ∧ t < 0 ∧ (G ∨ ∃ q, q < (RBB w ru).ln ∧ P q)) ∨ (v = 0 ∧ ¬ (t < 0 ∧ (G ∨ ∃ q, q < (RBB w ru).ln ∧ P q)))) := by
      unfold f_Re_grows_72 f_Re_grows_101 f_Re_grows_105
      by_cases m1 : mn (RBB w ru) t = 1
      · rw [if_pos (by rw [m1]; rfl)]
        exact g106 1 (Or.inr rfl) ⟨fun _ => Or.inl m1, fun _ => rfl⟩
      · rw [if_neg (fun e => m1 (by exact Int.ofNat.inj e))]
        by_cases m2 : mn (RBB w ru) t = 2
        · rw [if_pos (by rw [m2]; rfl)]
          by_cases a0 : a = 0
          · rw [if_pos a0]
            exact g106 0 (Or.inl rfl) ⟨fun e => absurd e (by decide), fun z => z.elim (fun k => absurd k m1) (fun k => by have := k.2.1; rw [a0] at this; exact absurd this (by decide))⟩
          · rw [if_neg a0, hlast, bnd_s]
            by_cases ut : u = t
            · rw [if_pos ut]
              exact g106 1 (Or.inr rfl) ⟨fun _ => Or.inr ⟨m2, a01.resolve_left a0, ut⟩, fun _ => rfl⟩
            · rw [if_neg ut]
              exact g106 0 (Or.inl rfl) ⟨fun e => absurd e (by decide), fun z => z.elim (fun k => absurd k m1) (fun k => absurd k.2.2 ut)⟩
        · rw [if_neg (fun e => m2 (by exact Int.ofNat.inj e))]
          exact g106 0 (Or.inl rfl) ⟨fun e => absurd e (by decide), fun z => z.elim (fun k => absurd k m1) (fun k => absurd k.1 m2)⟩
    by_cases hk : w 4 r = w 4 s
    · have ea : a = 1 := haa.mpr hk
      rw [if_pos hk]
      subst ea
      exact g72
    · have ea : a = 0 := a01.resolve_right (fun e => hk (haa.mp e))
      rw [if_neg hk]
      subst ea
      exact g72
  · rw [if_neg ht0]
    exact ⟨0, rfl, Or.inr ⟨rfl, fun z => ht0 z.1⟩⟩
