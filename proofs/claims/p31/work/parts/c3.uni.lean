/-! BOTH: a walk finds nothing twice; values given ahead -/
theorem En_pal {O : Nat → (Nat → Int) → Nat → Option ((Nat → Int) × Nat)} {C : Nat → List Nat} : ∀ (k d : Nat) (vs : Nat → Int) (pa : List Nat) (x : (Nat → Int) × List Nat), En O C k d vs pa x → ∃ l, x.2 = l ++ pa ∧ l.length = k := by
  intro k
  induction k with
  | zero => intro d vs pa x h; exact ⟨[], by rw [show x = (vs, pa) from h]; rfl, rfl⟩
  | succ k ih =>
    intro d vs pa x h
    obtain ⟨s, hs, q, hq, h⟩ := h
    obtain ⟨l, hl, hk⟩ := ih _ _ _ _ h
    exact ⟨l ++ [s], by rw [hl]; simp, by simp [hk]⟩
theorem en_apart {O : Nat → (Nat → Int) → Nat → Option ((Nat → Int) × Nat)} {C : Nat → List Nat} : ∀ (k d : Nat) (vs : Nat → Int) (pa : List Nat), (∀ j, d ≤ j → j < d + k → (C j).Nodup) → (en O C k d vs pa).Pairwise (fun x y => x.2 ≠ y.2) := by
  intro k
  induction k with
  | zero => intro d vs pa _; exact List.pairwise_singleton _ _
  | succ k ih =>
    intro d vs pa hC
    show ((C d).flatMap (fun s => mo (O d vs s) (fun q => en O C k (d + 1) q.1 (s :: pa)))).Pairwise _
    rw [List.pairwise_flatMap]
    refine ⟨fun s hs => ?_, (hC d (Nat.le_refl _) (by omega)).imp (fun {s s'} hne x hx y hy e => hne ?_)⟩
    · cases h : O d vs s with
      | none => exact List.Pairwise.nil
      | some q => exact ih (d + 1) q.1 (s :: pa) (fun j h1 h2 => hC j (by omega) (by omega))
    · obtain ⟨q, hq, hx⟩ := mem_mo.mp hx
      obtain ⟨q', hq', hy⟩ := mem_mo.mp hy
      obtain ⟨l, hl, hlk⟩ := En_pal _ _ _ _ _ ((mem_en _ _ _ _ _).mp hx)
      obtain ⟨l', hl', hlk'⟩ := En_pal _ _ _ _ _ ((mem_en _ _ _ _ _).mp hy)
      rw [hl, hl'] at e
      have h2 := (List.append_inj e (by rw [hlk, hlk'])).2
      injection h2
/-- two slots are not alike -/
def SuQ (n : Nat) (ρ c : Nat → Nat) : Prop := ∀ s s', s < n → s' < n → ρ s = ρ s' → c s = c s' → s' = s
theorem SuQ_B {w : World} {M n : Nat} {ρ c : Nat → Nat} (h : BMod w M n ρ c) : SuQ n ρ c := fun s s' hs hs' hρ hc => by
  refine Classical.byContradiction fun hne => ?_
  exact h.2.2.2.2 s s' hs hs' (fun e => hne e.symm) hρ (by rw [hc])
theorem SuQ_A {w : World} {t n : Nat} {ρ c : Nat → Nat} {L : Nat → List Nat} (h : AMod w t n ρ c L) : SuQ n ρ c := fun s s' hs hs' hρ hc => by
  obtain ⟨a1, a2, a3, a4, a5, a6⟩ := h
  have hr := (a5 s hs).1
  have m1 := (a4 (ρ s) s hr).mpr ⟨hs, rfl⟩
  have m2 := (a4 (ρ s) s' hr).mpr ⟨hs', hρ.symm⟩
  have hp := a6 (ρ s) hr
  have key : ∀ (l : List Nat) (f : Nat → Nat), l.Pairwise (fun a b => f a < f b) → ∀ x y, x ∈ l → y ∈ l → f x = f y → y = x := by
    intro l f
    induction l with
    | nil => intro _ x y hx; cases hx
    | cons a l ih =>
      intro hp x y hx hy e
      have hp1 := List.pairwise_cons.mp hp
      rcases List.mem_cons.mp hx with h1 | h1
      · rcases List.mem_cons.mp hy with h2 | h2
        · rw [h1, h2]
        · have := hp1.1 y h2
          rw [h1] at e
          omega
      · rcases List.mem_cons.mp hy with h2 | h2
        · have := hp1.1 x h1
          rw [h2] at e
          omega
        · exact ih hp1.2 x y h1 h2 e
  exact key _ _ hp s s' m1 m2 (by rw [hc])
theorem en_uni {D : SH} {R : RU} {E n : Nat} {ρ c : Nat → Nat} {v0 : Nat → Int} {C : Nat → List Nat} (hC : WkQ D R E) (hSl : SlQ D n ρ c) (hCQ : CQ R n ρ E C) (hV0 : VV v0) (hu : SuQ n ρ c) : (en (oq D (AM n ρ c) R ρ c) C E 0 v0 []).Pairwise (fun x y => K8 x.1 ≠ K8 y.1) := by
  refine (en_apart E 0 v0 [] (fun j _ h => (hCQ j (by omega)).1)).imp_of_mem (fun {x y} hx hy hne e => hne ?_)
  obtain ⟨b1, b2, b3, b4, b5, b6⟩ := En_HQ hC hSl hCQ E 0 v0 [] x (by omega) (HQ.zero hV0) ((mem_en _ _ _ _ _).mp hx)
  obtain ⟨d1, d2, d3, d4, d5, d6⟩ := En_HQ hC hSl hCQ E 0 v0 [] y (by omega) (HQ.zero hV0) ((mem_en _ _ _ _ _).mp hy)
  refine AllP_uni y.2 x.2 (by rw [b3, d3]) (fun p s s' hp hP hP' => ?_) d5 b5
  rw [d3] at hp
  have kb : ∀ v : Nat → Int, BdP R v p → BdP R (K8 v) p := fun v hb cc hcc => by
    rw [K8_vl ((hC.2.1 p hp).1 cc hcc).1]
    exact hb cc hcc
  by_cases f0 : R.fm p = 0
  · obtain ⟨p1, p2, p3⟩ := hP.1 f0
    obtain ⟨q1, q2, q3⟩ := hP'.1 f0
    rw [tc_ext K8_ext (kb y.1 (d4 p hp).1)] at p3
    rw [tc_ext K8_ext (kb x.1 (b4 p hp).1), e] at q3
    exact hu s s' p1 q1 (by omega) (by rw [← p3, ← q3])
  · rw [hP.2 f0, hP'.2 f0]
/-- rows with the same in them, each once, are as long -/
theorem len_same {l l' : List ((Nat → Int) × List Nat)} (h : l.Pairwise (fun x y => K8 x.1 ≠ K8 y.1)) (h' : l'.Pairwise (fun x y => K8 x.1 ≠ K8 y.1)) (hm : ∀ u, (∃ x, x ∈ l ∧ K8 x.1 = u) ↔ ∃ x, x ∈ l' ∧ K8 x.1 = u) : l.length = l'.length := by
  have n1 : (l.map (fun x => K8 x.1)).Nodup := List.pairwise_map.mpr h
  have n2 : (l'.map (fun x => K8 x.1)).Nodup := List.pairwise_map.mpr h'
  have hp := (List.perm_ext_iff_of_nodup n1 n2).mpr (fun u => by rw [List.mem_map, List.mem_map]; exact hm u)
  have := hp.length_eq
  rw [List.length_map, List.length_map] at this
  exact this
theorem flat_len {α β : Type} {f : α → List β} {B : Nat} : ∀ (l : List α), (∀ a, a ∈ l → (f a).length ≤ B) → (l.flatMap f).length ≤ l.length * B := by
  intro l
  induction l with
  | nil => intro _; exact Nat.zero_le _
  | cons a l ih =>
    intro h
    have h1 := h a List.mem_cons_self
    have h2 := ih (fun b hb => h b (List.mem_cons_of_mem _ hb))
    rw [List.flatMap_cons, List.length_append, List.length_cons, Nat.add_mul, Nat.one_mul]
    omega
theorem en_len {O : Nat → (Nat → Int) → Nat → Option ((Nat → Int) × Nat)} {C : Nat → List Nat} {F : Nat → Bool} : ∀ (k d : Nat) (vs : Nat → Int) (pa : List Nat), (∀ j, d ≤ j → j < d + k → (C j).length ≤ if F j = true then 48 else 1) → (en O C k d vs pa).length ≤ wg F k d := by
  intro k
  induction k with
  | zero => intro d vs pa _; exact Nat.le_refl _
  | succ k ih =>
    intro d vs pa hC
    have h := flat_len (f := fun s => mo (O d vs s) (fun q => en O C k (d + 1) q.1 (s :: pa))) (B := wg F k (d + 1)) (C d) (fun s _ => by
      show (mo (O d vs s) (fun q => en O C k (d + 1) q.1 (s :: pa))).length ≤ _
      cases O d vs s with
      | none => exact Nat.zero_le _
      | some q => exact ih (d + 1) q.1 (s :: pa) (fun j h1 h2 => hC j (by omega) (by omega)))
    have h2 := hC d (Nat.le_refl _) (by omega)
    exact Nat.le_trans h (Nat.mul_le_mul_right _ h2)
theorem wg_mvB {F : Nat → Bool} : ∀ (k d : Nat), wg F k d ≤ mvB F k d := by
  intro k
  induction k with
  | zero => intro d; exact Nat.le_refl _
  | succ k ih =>
    intro d
    have h := ih (d + 1)
    show (if F d = true then 48 else 1) * wg F k (d + 1) ≤ (if F d = true then 48 else 1) * (mvB F k (d + 1) + 1) + 1
    have := Nat.mul_le_mul_left (if F d = true then 48 else 1) (show wg F k (d + 1) ≤ mvB F k (d + 1) + 1 by omega)
    omega
/-- values given ahead: the head's terms, where they are asked for -/
def gv (tm : Nat → Int) (m : Nat → Bool) (cd : Nat → Nat) : Nat → Nat → (Nat → Int) → Option (Nat → Int)
  | 0, _, vs => some vs
  | n + 1, c, vs => if m c = true then (if vl (bd vs (tm c) (cd c : Int)) (tm c) = (cd c : Int) then gv tm m cd n (c + 1) (bd vs (tm c) (cd c : Int)) else none) else gv tm m cd n (c + 1) vs
theorem bd_ext {vs : Nat → Int} {t x : Int} : Ext vs (bd vs t x) := fun y hy => by
  unfold bd
  split
  · next q =>
    by_cases e : y = (-1 - t).toNat
    · rw [e] at hy
      exact absurd q.2 hy
    · rw [upn_ne e]
  · rfl
theorem bd_new {vs : Nat → Int} {t x : Int} (ht : -8 ≤ t) (y : Nat) : bd vs t x y = vs y ∨ t = -1 - (y : Int) := by
  unfold bd
  split
  · next q =>
    by_cases e : y = (-1 - t).toNat
    · right; omega
    · left; rw [upn_ne e]
  · exact Or.inl rfl
theorem gv_snd {tm : Nat → Int} {m : Nat → Bool} {cd : Nat → Nat} (htm : ∀ c, c < 3 → -8 ≤ tm c ∧ tm c < 128) (hcd : ∀ c, cd c < 128) : ∀ (n c : Nat) (vs v' : Nat → Int), c + n ≤ 3 → VV vs → gv tm m cd n c vs = some v' → VV v' ∧ Ext vs v' ∧ (∀ j, c ≤ j → j < c + n → m j = true → vl v' (tm j) = (cd j : Int)) ∧ ∀ x : Nat, v' x = vs x ∨ ∃ j, j < 3 ∧ m j = true ∧ tm j = -1 - (x : Int) := by
  intro n
  induction n with
  | zero =>
    intro c vs v' _ hV h
    unfold gv at h
    cases h
    exact ⟨hV, Ext.refl, fun j h1 h2 => by omega, fun _ => Or.inl rfl⟩
  | succ n ih =>
    intro c vs v' hc hV h
    have hcc := hcd c
    unfold gv at h
    by_cases hm : m c = true
    · rw [if_pos hm] at h
      by_cases hq : vl (bd vs (tm c) (cd c : Int)) (tm c) = (cd c : Int)
      · rw [if_pos hq] at h
        obtain ⟨a1, a2, a3, a4⟩ := ih (c + 1) _ v' (by omega) (bd_VV hV (by omega)) h
        refine ⟨a1, bd_ext.trans a2, fun j h1 h2 h3 => ?_, fun x => ?_⟩
        · by_cases e : j = c
          · rw [e, vl_ext a2 (by omega), hq]
          · exact a3 j (by omega) (by omega) h3
        · rcases a4 x with e | e
          · rcases bd_new (vs := vs) (x := (cd c : Int)) (htm c (by omega)).1 x with e2 | e2
            · exact Or.inl (e.trans e2)
            · exact Or.inr ⟨c, by omega, hm, e2⟩
          · exact Or.inr e
      · rw [if_neg hq] at h
        cases h
    · rw [if_neg hm] at h
      obtain ⟨a1, a2, a3, a4⟩ := ih (c + 1) vs v' (by omega) hV h
      refine ⟨a1, a2, fun j h1 h2 h3 => ?_, a4⟩
      by_cases e : j = c
      · rw [e] at h3
        exact absurd h3 hm
      · exact a3 j (by omega) (by omega) h3
theorem gv_ex {tm : Nat → Int} {m : Nat → Bool} {cd : Nat → Nat} {σ : Nat → Nat} (htm : ∀ c, c < 3 → -8 ≤ tm c ∧ tm c < 128) (hcd : ∀ c, cd c < 128) (hσ : ∀ j, j < 3 → m j = true → tv σ (tm j) = cd j) : ∀ (n c : Nat) (vs : Nat → Int), c + n ≤ 3 → VV vs → Cons σ vs → ∃ v', gv tm m cd n c vs = some v' ∧ Cons σ v' := by
  intro n
  induction n with
  | zero => intro c vs _ _ hK; exact ⟨vs, rfl, hK⟩
  | succ n ih =>
    intro c vs hc hV hK
    have hcc := hcd c
    unfold gv
    by_cases hm : m c = true
    · have hs := hσ c (by omega) hm
      have hq : vl (bd vs (tm c) (cd c : Int)) (tm c) = (cd c : Int) := by
        by_cases h1 : vl vs (tm c) = -1
        · obtain ⟨hneg, hv⟩ := vl_neg h1
          unfold bd
          rw [if_pos ⟨hneg, hv⟩]
          unfold vl
          rw [if_pos hneg, upn_eq]
        · have h2 := Cons_vl hK (htm c (by omega)).1 h1
          have h3 := (vl_rng hV (htm c (by omega))).1
          rw [vl_ext bd_ext (by omega), h2, hs]
      rw [if_pos hm, if_pos hq]
      exact ih (c + 1) _ (by omega) (bd_VV hV (by omega)) (Cons_bd hK (by rw [hs]))
    · rw [if_neg hm]
      exact ih (c + 1) vs (by omega) hV hK
theorem K8_bd {vs : Nat → Int} {t x : Int} (ht : -8 ≤ t) : bd (K8 vs) t x = K8 (bd vs t x) := by
  have e : (t < 0 ∧ K8 vs (-1 - t).toNat = -1) ↔ (t < 0 ∧ vs (-1 - t).toNat = -1) := and_congr_right fun hn => by
    unfold K8
    rw [if_pos (by omega)]
  unfold bd
  by_cases q : t < 0 ∧ vs (-1 - t).toNat = -1
  · rw [if_pos (e.mpr q), if_pos q]
    funext y
    unfold K8
    by_cases h : y = (-1 - t).toNat
    · rw [h, upn_eq, upn_eq, if_pos (by omega)]
    · rw [upn_ne h, upn_ne h]
  · rw [if_neg (fun z => q (e.mp z)), if_neg q]
theorem gv_K8 {tm : Nat → Int} {m : Nat → Bool} {cd : Nat → Nat} (htm : ∀ c, c < 3 → -8 ≤ tm c ∧ tm c < 128) : ∀ (n c : Nat) (vs : Nat → Int), c + n ≤ 3 → gv tm m cd n c (K8 vs) = (gv tm m cd n c vs).map K8 := by
  intro n
  induction n with
  | zero => intro c vs _; rfl
  | succ n ih =>
    intro c vs hc
    have ht := (htm c (by omega)).1
    unfold gv
    rw [K8_bd ht, K8_vl ht, ih (c + 1) _ (by omega), ih (c + 1) _ (by omega)]
    by_cases hm : m c = true
    · rw [if_pos hm, if_pos hm]
      by_cases hq : vl (bd vs (tm c) (cd c : Int)) (tm c) = (cd c : Int)
      · rw [if_pos hq, if_pos hq]
      · rw [if_neg hq, if_neg hq]
        rfl
    · rw [if_neg hm, if_neg hm]
theorem gv_congr {tm tm' : Nat → Int} {m m' : Nat → Bool} {cd cd' : Nat → Nat} : ∀ (n c : Nat) (vs : Nat → Int), (∀ j, c ≤ j → j < c + n → m' j = m j ∧ (m j = true → tm' j = tm j ∧ cd' j = cd j)) → gv tm' m' cd' n c vs = gv tm m cd n c vs := by
  intro n
  induction n with
  | zero => intro c vs _; rfl
  | succ n ih =>
    intro c vs h
    obtain ⟨h1, h2⟩ := h c (Nat.le_refl _) (by omega)
    have ih' := fun vs => ih (c + 1) vs (fun j a b => h j (by omega) (by omega))
    unfold gv
    rw [h1]
    by_cases hm : m c = true
    · obtain ⟨h3, h4⟩ := h2 hm
      rw [if_pos hm, if_pos hm, h3, h4, ih']
    · rw [if_neg hm, if_neg hm, ih']
/-- no values at all -/
def nov : Nat → Int := fun _ => -1
theorem nov_VV : VV nov := fun _ => by unfold nov; omega
theorem nov_cons {σ : Nat → Nat} : Cons σ nov := fun _ _ h => absurd rfl h
