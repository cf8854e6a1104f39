/-! THE CLASS'S WALK: a literal is tried -/
def RB (w : World) (b : Nat) : RU := ((w b 0).toNat, fun p => w (b + 1) p, fun p => w (b + 2) p, fun p c => w (b + 3) (3 * p + c), w b 1, fun c => w (b + 3) (15 + c))
theorem kd1_out : ∀ b, b < 158 → kdA b = 1 → 15 ≤ b ∧ b + 3 < 98 := by decide +kernel
theorem kd6_out : ∀ b, b < 158 → kdA b = 6 → b = 98 ∨ 108 ≤ b := by decide +kernel
theorem kd_lt {b k : Nat} (h : kdA b = k) (hk : 0 < k) : b < 158 := by
  have := (TnA b (by show kdA b ≠ 0; omega)).2
  exact Nat.lt_succ_of_le this
theorem kd1 {b : Nat} (h : kdA b = 1) : 15 ≤ b ∧ b + 3 < 98 := kd1_out b (kd_lt h (by omega)) h
theorem kd6 {t : Nat} (h : kdA t = 6) : t = 98 ∨ 108 ≤ t := kd6_out t (kd_lt h (by omega)) h
/-- match the columns of a tuple, from one on -/
def mtf (tm : Nat → Int) (cd : Nat → Nat) : Nat → Nat → (Nat → Int) → Nat → Option ((Nat → Int) × Nat)
  | 0, _, vs, m => some (vs, m)
  | n + 1, c, vs, m => if vl vs (tm c) = -1 then mtf tm cd n (c + 1) (bd vs (tm c) (cd c : Int)) (m ||| vb (tm c)) else if vl vs (tm c) = (cd c : Int) then mtf tm cd n (c + 1) vs m else none
theorem vl_rng {vs : Nat → Int} (h : VV vs) {t : Int} (ht : -8 ≤ t ∧ t < 128) : -1 ≤ vl vs t ∧ vl vs t < 128 := by
  unfold vl
  split
  · exact h _
  · omega
theorem bd_VV {vs : Nat → Int} (h : VV vs) {t x : Int} (hx : 0 ≤ x ∧ x < 128) : VV (bd vs t x) := by
  unfold bd
  split
  · intro v
    unfold upn
    split
    · omega
    · exact h v
  · exact h
theorem vb_lt {t : Int} (h : -8 ≤ t ∧ t < 128) : vb t < 256 := by
  unfold vb
  split
  · exact Nat.lt_of_le_of_lt (Nat.pow_le_pow_right (by omega) (show (-1 - t).toNat ≤ 7 by omega)) (by decide)
  · omega
theorem mtf_inv {tm : Nat → Int} {cd : Nat → Nat} {v0 : Nat → Int} (htm : ∀ c, c < 3 → -8 ≤ tm c ∧ tm c < 128) (hcd : ∀ c, cd c < 128) : ∀ (n c : Nat) (vs : Nat → Int) (m : Nat) (v' : Nat → Int) (m' : Nat), c + n ≤ 3 → VV vs → Bnd v0 vs m → mtf tm cd n c vs m = some (v', m') → VV v' ∧ Bnd v0 v' m' := by
  intro n
  induction n with
  | zero =>
    intro c vs m v' m' _ hV hB h
    unfold mtf at h
    cases h
    exact ⟨hV, hB⟩
  | succ n ih =>
    intro c vs m v' m' hc hV hB h
    unfold mtf at h
    have ht := htm c (by omega)
    by_cases h1 : vl vs (tm c) = -1
    · rw [if_pos h1] at h
      have hneg : tm c < 0 := by
        refine Classical.byContradiction fun hn => ?_
        unfold vl at h1
        rw [if_neg hn] at h1
        omega
      have hv : vs (-1 - tm c).toNat = -1 := by unfold vl at h1; rw [if_pos hneg] at h1; exact h1
      exact ih (c + 1) _ _ v' m' (by omega) (bd_VV hV (by have := hcd c; omega)) (hB.bind ⟨ht.1, hneg⟩ hv) h
    · rw [if_neg h1] at h
      by_cases h2 : vl vs (tm c) = (cd c : Int)
      · rw [if_pos h2] at h
        exact ih (c + 1) vs m v' m' (by omega) hV hB h
      · rw [if_neg h2] at h
        cases h
/-- the world of a walk but for its own cells -/
def FrW (w w' : World) : Prop := ∀ c k, c ≠ 104 → c ≠ 105 → c ≠ 106 → ¬ (c = 103 ∧ (k = 4 ∨ k = 5)) → w' c k = w c k
theorem FrW.refl {w : World} : FrW w w := fun _ _ _ _ _ _ => rfl
theorem FrW.trans {w w' w'' : World} (h : FrW w w') (h' : FrW w' w'') : FrW w w'' := fun c k a b d e => (h' c k a b d e).trans (h c k a b d e)
theorem FrW.V {w : World} {vs : Nat → Int} : FrW w (setV w vs) := fun c k h _ _ _ => by unfold setV; rw [if_neg h]
theorem FrW.u {w : World} {c k : Nat} {v : Int} (h : c = 104 ∨ c = 105 ∨ c = 106 ∨ (c = 103 ∧ (k = 4 ∨ k = 5))) : FrW w (up w c k v) := fun c' k' a b d e => by
  unfold up
  rw [if_neg]
  rintro ⟨rfl, rfl⟩
  rcases h with h | h | h | h
  · exact a h
  · exact b h
  · exact d h
  · exact e h
/-- fits: the columns matched, or all as it was -/
theorem fits_loop {w : World} {b p k : Nat} {v0 : Nat → Int} (hb : (w 103 1).toNat = b) (hkb : kdA b = 1) (hp : p < 5) (hcd : k < 2097152) (htm : ∀ c, c < 3 → -8 ≤ w (b + 3) (3 * p + c) ∧ w (b + 3) (3 * p + c) < 128) : ∀ (n c : Nat) (vs : Nat → Int) (m : Nat), c + n ≤ 3 → VV vs → Bnd v0 vs m →
    f_Wa_fits_6 (setV w vs) (p : Int) ((c + n : Nat) : Int) (k : Int) (m : Int) (c : Int) = match mtf (fun c => w (b + 3) (3 * p + c)) (clm k) n c vs m with
      | some q => some (up (setV w q.1) 106 p (q.2 : Int), 1)
      | none => some (setV w v0, 0) := by
  intro n
  induction n with
  | zero =>
    intro c vs m hc hV hB
    unfold mtf f_Wa_fits_6
    refine lp_out ?_
    show f_Wa_fits_6B (setV w vs) (p : Int) ((c + 0 : Nat) : Int) (k : Int) (m : Int) (c : Int) = _
    unfold f_Wa_fits_6B
    rw [if_pos (by omega), noteBound_n hp, bnd_s]
  | succ n ih =>
    intro c vs m hc hV hB
    have ht := htm c (by omega)
    have hk1 := kd1 hkb
    have e103 : setV w vs 103 1 = w 103 1 := by rw [setV_ne (by omega)]
    have eb3 : setV w vs (b + 3) = w (b + 3) := setV_ne (by omega)
    have hstep : f_Wa_fits_6B (setV w vs) (p : Int) ((c + (n + 1) : Nat) : Int) (k : Int) (m : Int) (c : Int) =
        if vl vs (w (b + 3) (3 * p + c)) = -1 then some (Sum.inl (setV w (bd vs (w (b + 3) (3 * p + c)) ((clm k c : Nat) : Int)), ((m ||| vb (w (b + 3) (3 * p + c)) : Nat) : Int), ((c + 1 : Nat) : Int)))
        else if vl vs (w (b + 3) (3 * p + c)) = ((clm k c : Nat) : Int) then some (Sum.inl (setV w vs, (m : Int), ((c + 1 : Nat) : Int))) else some (Sum.inr (setV w v0, 0)) := by
      unfold f_Wa_fits_6B f_Wa_fits_82
      have hm := hB.1
      have hvb := vb_lt ht
      rw [if_neg (by omega), e103, hb, gd_t hkb, termOf_n (by omega) (by omega), bnd_s, columnOf_n hcd ⟨by omega, by omega⟩, bnd_s, eb3, valueOf_n ht, bnd_s, setV_104, Int.toNat_natCast]
      by_cases h1 : vl vs (w (b + 3) (3 * p + c)) = -1
      · rw [if_pos h1, if_pos h1, bindIfFree_n ht, bnd_s, variableBit_n ht, bnd_s, bl_s, bl_s, ior_n (by omega) (by omega), wr_of (x := (c : Int) + 1) ⟨by omega, by omega⟩, setV_104, setV_set]
        rfl
      · rw [if_neg h1, if_neg h1]
        by_cases h2 : vl vs (w (b + 3) (3 * p + c)) = ((clm k c : Nat) : Int)
        · rw [if_pos h2, if_pos h2, bl_s, wr_of (x := (c : Int) + 1) ⟨by omega, by omega⟩]
          rfl
        · rw [if_neg h2, if_neg h2, unbind_n hm, bnd_s, setV_104, setV_set, hB.ub]
    unfold mtf
    by_cases h1 : vl vs (w (b + 3) (3 * p + c)) = -1
    · rw [if_pos h1] at hstep
      rw [if_pos h1]
      have hneg : w (b + 3) (3 * p + c) < 0 := by
        refine Classical.byContradiction fun hn => ?_
        unfold vl at h1
        rw [if_neg hn] at h1
        omega
      have hv : vs (-1 - w (b + 3) (3 * p + c)).toNat = -1 := by unfold vl at h1; rw [if_pos hneg] at h1; exact h1
      have := ih (c + 1) (bd vs (w (b + 3) (3 * p + c)) ((clm k c : Nat) : Int)) (m ||| vb (w (b + 3) (3 * p + c))) (by omega) (bd_VV hV (by have := clm_lt (n := k) (j := c); omega)) (hB.bind ⟨ht.1, hneg⟩ hv)
      rw [← this]
      have e : c + 1 + n = c + (n + 1) := by omega
      rw [e]
      unfold f_Wa_fits_6
      exact lp_step (s := (setV w vs, (m : Int), (c : Int))) hstep
    · rw [if_neg h1] at hstep
      rw [if_neg h1]
      by_cases h2 : vl vs (w (b + 3) (3 * p + c)) = ((clm k c : Nat) : Int)
      · rw [if_pos h2] at hstep
        rw [if_pos h2]
        have := ih (c + 1) vs m (by omega) hV hB
        rw [← this]
        have e : c + 1 + n = c + (n + 1) := by omega
        rw [e]
        unfold f_Wa_fits_6
        exact lp_step (s := (setV w vs, (m : Int), (c : Int))) hstep
      · rw [if_neg h2] at hstep
        rw [if_neg h2]
        unfold f_Wa_fits_6
        exact lp_out (s := (setV w vs, (m : Int), (c : Int))) hstep
theorem fits_n {w : World} {b p k n : Nat} (hb : (w 103 1).toNat = b) (hkb : kdA b = 1) (hp : p < 5) (hcd : k < 2097152) (hn : n ≤ 3) (htm : ∀ c, c < 3 → -8 ≤ w (b + 3) (3 * p + c) ∧ w (b + 3) (3 * p + c) < 128) (hV : VV (w 104)) :
    f_Wa_fits w (p : Int) (n : Int) (k : Int) = match mtf (fun c => w (b + 3) (3 * p + c)) (clm k) n 0 (w 104) 0 with
      | some q => some (up (setV w q.1) 106 p (q.2 : Int), 1)
      | none => some (w, 0) := by
  have h := fits_loop (w := w) (v0 := w 104) hb hkb hp hcd htm n 0 (w 104) 0 (by omega) hV Bnd.refl
  rw [setV_self, Nat.zero_add] at h
  unfold f_Wa_fits
  exact h
/-- the first of a row that is taken, what it binds, and the rest of the row -/
def scan (O : Nat → Option ((Nat → Int) × Nat)) : List Nat → Option (Nat × ((Nat → Int) × Nat) × List Nat)
  | [] => none
  | s :: l => match O s with
    | some q => some (s, q, l)
    | none => scan O l
/-- a tuple of this round, or of rounds before -/
def timely (ld lr : Int) (rd : Nat → Int) (p s : Nat) : Bool := if ld = -1 then true else if (p : Int) ≤ ld then (if (p : Int) = ld then decide (rd s = lr) else decide (rd s < lr)) else true
theorem isTimely_n {w : World} {t p s : Nat} (ht : (w 103 2).toNat = t) (hkt : kdA t = 6) (hs : s < 48) : f_Wa_isTimely w (p : Int) (s : Int) = some (if timely (w 103 6) (w 103 7) (w (t + 4)) p s = true then 1 else 0) := by
  unfold f_Wa_isTimely timely
  by_cases h1 : w 103 6 = -1
  · rw [if_pos h1, if_pos h1]; rfl
  · rw [if_neg h1, if_neg h1]
    by_cases h2 : (p : Int) ≤ w 103 6
    · rw [if_pos h2, if_pos h2, ht, gd_t hkt, roundOf_n hs, bnd_s]
      by_cases h3 : (p : Int) = w 103 6
      · rw [if_pos h3, if_pos h3]
        by_cases h4 : w (t + 4) s = w 103 7
        · rw [if_pos h4, if_pos (decide_eq_true h4)]
        · rw [if_neg h4, if_neg (by simpa using h4)]
      · rw [if_neg h3, if_neg h3]
        by_cases h4 : w 103 7 ≤ w (t + 4) s
        · rw [if_pos h4, if_neg (by simpa using h4)]
        · rw [if_neg h4, if_pos (decide_eq_true (by omega))]
    · rw [if_neg h2, if_neg h2]; rfl
/-- what a tuple binds, if it is of the rounds asked for and fits -/
def tO (w : World) (b t p n : Nat) (vs : Nat → Int) (s : Nat) : Option ((Nat → Int) × Nat) := if timely (w 103 6) (w 103 7) (w (t + 4)) p s = true then mtf (fun c => w (b + 3) (3 * p + c)) (clm (w (t + 3) s).toNat) n 0 vs 0 else none
theorem takes_loop {w : World} {b t p n : Nat} (hb : (w 103 1).toNat = b) (hkb : kdA b = 1) (ht : (w 103 2).toNat = t) (hkt : kdA t = 6) (hp : p < 5) (hn : n ≤ 3) (htm : ∀ c, c < 3 → -8 ≤ w (b + 3) (3 * p + c) ∧ w (b + 3) (3 * p + c) < 128) (hV : VV (w 104)) :
    ∀ (l : List Nat) (i : Nat) (s : Int), seg (w (t + 2)) s l → i + l.length ≤ 48 → (∀ x, x ∈ l → x < 48 ∧ 0 ≤ w (t + 3) x ∧ w (t + 3) x < 2097152) →
    f_Wa_takesTuple_82 w (p : Int) s (n : Int) (i : Int) = match scan (tO w b t p n (w 104)) l with
      | some (s', q, _) => some (up (up (setV w q.1) 106 p (q.2 : Int)) 105 p (s' : Int), 1)
      | none => some (w, 0) := by
  intro l
  induction l with
  | nil =>
    intro i s hs hi _
    have hs : s = -1 := hs
    subst hs
    unfold scan f_Wa_takesTuple_82
    refine lp_out ?_
    show f_Wa_takesTuple_82B w (p : Int) (-1) (n : Int) (i : Int) = _
    unfold f_Wa_takesTuple_82B
    split
    · rfl
    · rfl
  | cons a l ih =>
    intro i s hs hi hx
    obtain ⟨rfl, hs2⟩ := hs
    have ha := hx a List.mem_cons_self
    rw [List.length_cons] at hi
    have ih' := ih (i + 1) _ hs2 (by omega) (fun x hm => hx x (List.mem_cons_of_mem _ hm))
    obtain ⟨k, hk⟩ : ∃ k : Nat, w (t + 3) a = (k : Int) := ⟨(w (t + 3) a).toNat, by omega⟩
    have h130 : f_Wa_takesTuple_130 w (p : Int) (a : Int) (n : Int) (i : Int) = some (Sum.inl (w, w (t + 2) a, ((i + 1 : Nat) : Int))) := by
      unfold f_Wa_takesTuple_130
      rw [ht, gd_t hkt, nextOf_n ha.1, bnd_s, bl_s, wr_of (x := (i : Int) + 1) ⟨by omega, by omega⟩]
      rfl
    have hstep : f_Wa_takesTuple_82B w (p : Int) (a : Int) (n : Int) (i : Int) = match tO w b t p n (w 104) a with
        | some q => some (Sum.inr (up (up (setV w q.1) 106 p (q.2 : Int)) 105 p (a : Int), 1))
        | none => some (Sum.inl (w, w (t + 2) a, ((i + 1 : Nat) : Int))) := by
      unfold f_Wa_takesTuple_82B tO
      rw [if_neg (by omega), if_neg (by omega), isTimely_n ht hkt ha.1, bnd_s]
      by_cases hT : timely (w 103 6) (w 103 7) (w (t + 4)) p a = true
      · have e1 : clm (w (t + 3) a).toNat = clm k := by rw [hk, Int.toNat_natCast]
        rw [if_pos hT, if_pos hT, if_neg (by decide), e1, ht, gd_t hkt, codeOf_n ha.1, bnd_s, hk, fits_n hb hkb hp (by omega) hn htm hV]
        cases hm : mtf (fun c => w (b + 3) (3 * p + c)) (clm k) n 0 (w 104) 0 with
        | none => exact h130
        | some q =>
          have h10 : ¬ ((1 : Int) = 0) := by decide
          simp only [bnd_s]
          rw [if_neg h10, gd_t ⟨by omega, by omega⟩, bl_s, Int.toNat_natCast]
      · rw [if_neg hT, if_neg hT, if_pos rfl]
        exact h130
    unfold scan
    cases hO : tO w b t p n (w 104) a with
    | some q =>
      rw [hO] at hstep
      unfold f_Wa_takesTuple_82
      exact lp_out (s := (w, (a : Int), (i : Int))) hstep
    | none =>
      rw [hO] at hstep
      have : f_Wa_takesTuple_82 w (p : Int) (a : Int) (n : Int) (i : Int) = f_Wa_takesTuple_82 w (p : Int) (w (t + 2) a) (n : Int) ((i + 1 : Nat) : Int) := by
        unfold f_Wa_takesTuple_82
        exact lp_step (s := (w, (a : Int), (i : Int))) hstep
      rw [this, ih']
