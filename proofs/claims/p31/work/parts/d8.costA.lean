/-! THE CLASS: costs, of an assignment; a cost is lowered; one rule's walk -/
def FrC (w w' : World) : Prop := ∀ c, ¬ (103 ≤ c ∧ c ≤ 106) → c ≠ 150 → c ≠ 151 → w' c = w c
theorem FrC.refl {w : World} : FrC w w := fun _ _ _ _ => rfl
theorem FrC.trans {w w' w'' : World} (h : FrC w w') (h' : FrC w' w'') : FrC w w'' := fun c a b d => (h' c a b d).trans (h c a b d)
theorem Fr3.c {w w' : World} (h : Fr3 w w') : FrC w w' := fun c a _ _ => h c a
theorem FrC.u {w : World} {s : Nat} {v : Int} : FrC w (up w 151 s v) := fun c _ _ d => by
  funext k
  unfold up
  rw [if_neg (fun z => d z.1)]
theorem FrC.SA {w w' : World} (h : FrC w w') : SA w' = SA w := SA_c5 (fun c _ _ => h c (by omega) (by omega) (by omega))
theorem FrC.R {w w' : World} (h : FrC w w') {b : Nat} (hkb : kdA b = 1) : RB w' b = RB w b := by
  have := kd1 hkb
  exact RB_congr (h b (by omega) (by omega) (by omega)) (h _ (by omega) (by omega) (by omega)) (h _ (by omega) (by omega) (by omega)) (h _ (by omega) (by omega) (by omega))
theorem FrC.M {w w' : World} (h : FrC w w') {t n : Nat} {ρ c : Nat → Nat} {L : Nat → List Nat} (hkt : kdA t = 6) (hA : AMod w t n ρ c L) : AMod w' t n ρ c L := by
  have h1 := kd6 hkt
  have h2 := kd6_hi hkt
  exact AMod_congr (fun c _ _ => h c (by omega) (by omega) (by omega)) (fun c _ _ => h c (by omega) (by omega) (by omega)) hA
def K151 (u : World) (n : Nat) (κ : Nat → Nat) : Prop := ∀ s, s < n → u 151 s = (κ s : Int)
theorem lowerA_n {u : World} {n s v : Nat} {κ : Nat → Nat} (hκ : K151 u n κ) (hs : s < n) (hn : n ≤ 48) : f_Co_lower u (s : Int) (v : Int) = if κ s ≤ v then some (u, 0) else some (up u 151 s (v : Int), 1) := by
  have hk := hκ s hs
  unfold f_Co_lower
  rw [if_neg (by omega), if_neg (by omega), gd_t ⟨by omega, by omega⟩, Int.toNat_natCast, gd_t ⟨by omega, by omega⟩, bl_s]
  by_cases q : κ s ≤ v
  · rw [if_pos q, if_neg (by omega)]
  · rw [if_neg q, if_pos (by omega)]
theorem K151_low {u : World} {n s v : Nat} {κ : Nat → Nat} (hκ : K151 u n κ) : K151 (up u 151 s (v : Int)) n (upn κ s v) := fun x hx => by
  unfold up upn
  by_cases q : x = s
  · rw [if_pos ⟨rfl, q⟩, if_pos q]
  · rw [if_neg (fun z => q z.2), if_neg q]
    exact hκ x hx
theorem AllP_at {P : Nat → Nat → Prop} : ∀ (l : List Nat), AllP P l → ∀ p, p < l.length → ∃ s, P p s := by
  intro l
  induction l with
  | nil => intro _ p hp; exact absurd hp (Nat.not_lt_zero p)
  | cons a l ih =>
    intro h p hp
    by_cases e : p = l.length
    · rw [e]; exact ⟨a, h.1⟩
    · exact ih h.2 p (by rw [List.length_cons] at hp; omega)
theorem AllP_both {P P' : Nat → Nat → Prop} : ∀ (l : List Nat), AllP P l → AllP P' l → AllP (fun p s => P p s ∧ P' p s) l := by
  intro l
  induction l with
  | nil => intro _ _; exact trivial
  | cons a l ih => intro h h'; exact ⟨⟨h.1, h'.1⟩, ih h.2 h'.2⟩
theorem costA_n {u : World} {b N : Nat} {ρ c κ : Nat → Nat} {vs : Nat → Int} (hb : (u 103 1).toNat = b) (hkb : kdA b = 1) (hb0 : u b 0 = ((RB u b).ln : Int)) (h5 : (RB u b).ln ≤ 5) (hN : N ≤ 48) (hu : SuQ N ρ c) (hsl : ∀ p, p < (RB u b).ln → (RB u b).fm p = 0 → ∃ s : Nat, u 105 p = (s : Int) ∧ s < N ∧ (ρ s : Int) = (RB u b).sj p ∧ c s = tc (sg vs) ((RB u b).tm p)) (hκ : K151 u N κ) (hκ6 : ∀ s, s < N → κ s ≤ 1000000) : f_Wa_cost u = some ((1 + sumH (Ck N ρ c κ) (RB u b) (sg vs) : Nat) : Int) := by
  obtain ⟨R, hR⟩ : ∃ R, R = RB u b := ⟨_, rfl⟩
  obtain ⟨F, hFd⟩ : ∃ F : Nat → Nat, F = fun p => if R.fm p = 0 then Ck N ρ c κ (R.sj p) (tc (sg vs) (R.tm p)) else 0 := ⟨_, rfl⟩
  have hsum : sumH (Ck N ρ c κ) R (sg vs) = sumN F R.ln := by rw [hFd]; rfl
  have e1 : ∀ p, u (b + 1) p = R.fm p := fun p => by rw [hR]; rfl
  rw [← hR] at hb0 h5 hsl ⊢
  have hFs : ∀ p, p < R.ln → R.fm p = 0 → ∃ s : Nat, u 105 p = (s : Int) ∧ s < N ∧ F p = κ s := fun p hp f0 => by
    obtain ⟨s, a1, a2, a3, a4⟩ := hsl p hp f0
    refine ⟨s, a1, a2, ?_⟩
    rw [hFd]
    show (if R.fm p = 0 then Ck N ρ c κ (R.sj p) (tc (sg vs) (R.tm p)) else 0) = _
    rw [if_pos f0, ← a3, ← a4]
    show κ (slt N ρ c (ρ s : Int) (c s)) = _
    rw [slt_n hu a2]
  have hF0 : ∀ p, R.fm p ≠ 0 → F p = 0 := fun p f0 => by
    rw [hFd]
    show (if R.fm p = 0 then Ck N ρ c κ (R.sj p) (tc (sg vs) (R.tm p)) else 0) = _
    rw [if_neg f0]
  have hF6 : ∀ p, p < R.ln → F p ≤ 1000000 := fun p hp => by
    by_cases f0 : R.fm p = 0
    · obtain ⟨s, -, a2, a3⟩ := hFs p hp f0
      rw [a3]
      exact hκ6 s a2
    · rw [hF0 p f0]; omega
  have hsb : ∀ p, p ≤ R.ln → sumN F p ≤ 1000000 * p := fun p => by
    induction p with
    | zero => intro _; exact Nat.le_refl _
    | succ p ih =>
      intro hp
      have h1 := ih (by omega)
      have h2 := hF6 p (by omega)
      show sumN F p + F p ≤ _
      omega
  have loop : ∀ (j p : Nat), p + j = R.ln → f_Wa_cost_4 u ((1 + sumN F p : Nat) : Int) (p : Int) = some ((1 + sumN F R.ln : Nat) : Int) := by
    intro j
    induction j with
    | zero =>
      intro p hp
      have e : p = R.ln := by omega
      rw [e]
      unfold f_Wa_cost_4
      refine lp_out ?_
      show f_Wa_cost_4B u ((1 + sumN F R.ln : Nat) : Int) (R.ln : Int) = _
      unfold f_Wa_cost_4B
      rw [hb, gd_t hkb, hb0, if_pos (Int.le_refl _)]
    | succ j ih =>
      intro p hp
      have hpl : p < R.ln := by omega
      have hbd := hsb p (by omega)
      have hfp := hF6 p hpl
      have hn1 : 1 + sumN F (p + 1) = 1 + sumN F p + F p := by show 1 + (sumN F p + F p) = _; omega
      rw [← ih (p + 1) (by omega)]
      unfold f_Wa_cost_4
      refine lp_step (F := fun z : (Int × Int) => f_Wa_cost_4B u z.1 z.2) (s := (((1 + sumN F p : Nat) : Int), (p : Int))) ?_
      show f_Wa_cost_4B u ((1 + sumN F p : Nat) : Int) (p : Int) = some (Sum.inl (((1 + sumN F (p + 1) : Nat) : Int), ((p + 1 : Nat) : Int)))
      have e50 : ∀ y : Nat, y ≤ 1000000 → f_Wa_cost_50 u (p : Int) ((1 + sumN F p : Nat) : Int) (y : Int) = some (Sum.inl (((1 + sumN F p + y : Nat) : Int), ((p + 1 : Nat) : Int))) := fun y hy => by
        unfold f_Wa_cost_50
        rw [bl_s, bl_s, wr_of (x := (p : Int) + 1) ⟨by omega, by omega⟩, wr_of (x := ((1 + sumN F p : Nat) : Int) + (y : Int)) ⟨by omega, by omega⟩]
        rfl
      unfold f_Wa_cost_4B
      rw [hb, gd_t hkb, hb0, if_neg (by omega), if_neg (by omega), gd_t hkb, formOf_n (by omega), bnd_s, e1]
      by_cases f0 : R.fm p = 0
      · obtain ⟨s, a1, a2, a3⟩ := hFs p hpl f0
        have hc : f_Co_costOf u (s : Int) = some (κ s : Int) := by
          unfold f_Co_costOf
          rw [if_neg (by omega), if_neg (by omega), gd_t ⟨by omega, by omega⟩, Int.toNat_natCast, hκ s a2]
        rw [if_pos f0, gd_t ⟨by omega, by omega⟩, Int.toNat_natCast, a1, hc, bnd_s, e50 _ (hκ6 s a2), hn1, a3]
      · have e0 : f_Wa_cost_50 u (p : Int) ((1 + sumN F p : Nat) : Int) 0 = _ := e50 0 (by omega)
        rw [if_neg f0, e0, hn1, hF0 p f0]
  have := loop R.ln 0 (by omega)
  rw [hsum, ← this]
  unfold f_Wa_cost
  rfl
theorem lowA_walk {w : World} {b t N r kk : Nat} {ρ c : Nat → Nat} {Lc : Nat → List Nat} {FC : Int → Nat → Nat → Prop} {RR : RU → Prop} {C : Int → Nat → Nat} (hkk : kk < 12) (hRd : RdA w b t r N ρ c Lc) (hRR : RR (RB w b)) (hcl : ClK (SA w) RR (AM N ρ c)) (hC : CostP (SA w) FC RR (AM N ρ c) C) : ∀ (l : List ((Nat → Int) × List Nat)) (u : World) (κ : Nat → Nat) (x : Int) (i : Nat), ItA b l u → FrC w u → (u 103 1).toNat = b → K151 u N κ → OnW (SA w) FC N ρ c C κ → (∀ y, y ∈ l → FdQ (AM N ρ c) (RB w b) y ∧ AllP (PvQ (RB w b) N ρ c y.1) y.2 ∧ y.2.length = (RB w b).ln) → (x = 0 ∨ x = 1) → i + l.length < 10000000 →
    ∃ u' κ' x', f_Dm_lowerByRules_43 u x (kk : Int) b (i : Int) = some (Sum.inl (u', x', ((kk + 1 : Nat) : Int))) ∧ FrC w u' ∧ VV (u' 104) ∧ K151 u' N κ' ∧ OnW (SA w) FC N ρ c C κ' ∧ Dwn N κ κ' ∧ (∀ y, y ∈ l → ∀ s, s < N → ρ s = r → kz ((SA w).kq (r : Int)) (c s) = kz ((SA w).kq (r : Int)) (tc (sg y.1) (RB w b).ht) → κ' s ≤ 1 + sumH (Ck N ρ c κ) (RB w b) (sg y.1)) ∧ Flg N κ κ' x x' ∧ u' 150 = u 150 := by
  obtain ⟨⟨a1, a2, a3⟩, ⟨b1, b2, b3⟩, ⟨c1, c2⟩, ⟨d1, d2, d3⟩, e1, e2, e3⟩ := id hRd
  have hb1 := kd1 a1
  have h5 := d1.1
  have hN := b2.2.1
  have hu := SuQ_A b2
  have hht := d1.2.2.2.2.2.2
  have htg : (RB w b).tg = (r : Int) := e2
  have e128 : ∀ (u : World) (x : Int), f_Dm_lowerByRules_128 u x (kk : Int) = some (Sum.inl (u, x, ((kk + 1 : Nat) : Int))) := fun u x => by
    unfold f_Dm_lowerByRules_128
    rw [bl_s, wr_of (x := (kk : Int) + 1) ⟨by omega, by omega⟩]
    rfl
  intro l
  induction l with
  | nil =>
    intro u κ x i hI hF hub hκ hO _ hx hi
    have hi : i < 10000000 := by simpa using hi
    obtain ⟨u1, q1, q2, q3⟩ := hI
    refine ⟨u1, κ, x, ?_, hF.trans q2.r3.c, q3, fun s hs => by rw [q2.cell (by omega)]; exact hκ s hs, hO, Dwn.refl, fun y hy => absurd hy List.not_mem_nil, Flg.refl hx, q2.cell (by omega)⟩
    unfold f_Dm_lowerByRules_43
    refine lp_out ?_
    show f_Dm_lowerByRules_43B u x (kk : Int) b (i : Int) = _
    unfold f_Dm_lowerByRules_43B
    rw [if_neg (by omega), hF b (by omega) (by omega) (by omega), if_pos e3, q1, bnd_s, if_pos rfl, e128, bnd_s]
  | cons a l ih =>
    intro u κ x i hI hF hub hκ hO hl hx hi
    rw [List.length_cons] at hi
    obtain ⟨u1, q1, q2, q3, q4, qp, q5⟩ := hI
    have hF1 := hF.trans q2.r3.c
    have hκ1 : K151 u1 N κ := fun s hs => by rw [q2.cell (by omega)]; exact hκ s hs
    obtain ⟨⟨hVa, hSa, hba, hha⟩, hpa, hla⟩ := hl a List.mem_cons_self
    have hRB : RB u1 b = RB w b := hF1.R a1
    have hub1 : (u1 103 1).toNat = b := by rw [q2.f ⟨by omega, by omega⟩]; exact hub
    have hm : tc (sg a.1) (RB w b).ht < 2097152 := tc_lt (sg_VA hVa) (fun c hc => (hht c hc).2)
    obtain ⟨m, ⟨s0, hs0, hρ0, hc0⟩, hkm⟩ := hcl (RB w b) (sg a.1) hRR hSa
    rw [htg] at hρ0 hkm
    have hρ0' : ρ s0 = r := by omega
    have hk0 : kz ((SA w).kq (r : Int)) (c s0) = kz ((SA w).kq (r : Int)) (tc (sg a.1) (RB w b).ht) := by rw [hc0]; exact hkm.symm
    have hRd1 : WfS u1 := WfS_congr (fun c a d k => by rw [hF1 c (by omega) (by omega) (by omega)]) b1
    obtain ⟨v, hv, hv2⟩ := slotA_eq (k := tc (sg a.1) (RB w b).ht) (s := s0) hRd1 (hF1.M a2 b2) c1 (by rw [hF1 3 (by omega) (by omega) (by omega)]; exact c2) hm hs0 hρ0' (by rw [hF1.SA]; exact hk0)
    have hvs := hv2.mpr rfl
    obtain ⟨cv, hcv⟩ : ∃ cv, cv = 1 + sumH (Ck N ρ c κ) (RB w b) (sg a.1) := ⟨_, rfl⟩
    have hub0 : u1 b 0 = ((RB u1 b).ln : Int) := by rw [hRB, hF1 b (by omega) (by omega) (by omega)]; exact e1
    have hcost := costA_n (κ := κ) (vs := a.1) hub1 a1 hub0 (by rw [hRB]; exact h5) hN hu (fun p hp hf => by
      rw [hRB] at hp hf ⊢
      obtain ⟨s, z1, z2⟩ := AllP_at a.2 (AllP_both a.2 qp hpa) p (by omega)
      have hub' : u (b + 1) p = 0 := by rw [hF (b + 1) (by omega) (by omega) (by omega)]; exact hf
      obtain ⟨y1, y2, y3⟩ := z2.1 hf
      exact ⟨s, z1 hub', y1, y2, y3.symm⟩) hκ1 (fun s hs => (hO s hs).2.1)
    rw [hRB, ← hcv] at hcost
    have hlow := lowerA_n (v := cv) hκ1 hs0 hN
    have hpr := present_c (w' := u1) (fun c hc => hF1 c (by omega) (by omega) (by omega)) a3
    have htup := tuple_n (w := u1) (b := b) (p := 5) hub1 a1 (by omega) (fun cc hcc => by
      have : u1 (b + 3) (3 * 5 + cc) = (RB u1 b).ht cc := rfl
      rw [this, hRB]
      exact hht cc hcc) q3
    have etn : tn u1 b 5 (u1 104) = tc (sg a.1) (RB w b).ht := by
      rw [tn_sg, q4]
      have : (RB u1 b).tm 5 = (RB u1 b).ht := rfl
      rw [this, hRB]
    rw [etn] at htup
    have hbody : f_Dm_lowerByRules_43B u x (kk : Int) b (i : Int) = bnd (f_Co_lower u1 (s0 : Int) (cv : Int)) fun v29 => if v29.2 = 0 then (if x = 0 then (f_Dm_lowerByRules_121 v29.1 (kk : Int) b (i : Int) 0) else (f_Dm_lowerByRules_116 v29.1 (kk : Int) b (i : Int))) else (f_Dm_lowerByRules_116 v29.1 (kk : Int) b (i : Int)) := by
      have htup : f_Wa_tuple u1 5 = _ := htup
      have e1r : u1 b 1 = (r : Int) := by rw [hF1 b (by omega) (by omega) (by omega)]; exact e2
      unfold f_Dm_lowerByRules_43B
      rw [if_neg (by omega), hF b (by omega) (by omega) (by omega), if_pos e3, q1, bnd_s, if_neg z10]
      show bnd (f_Dm_present u1) _ = _
      rw [hpr, bnd_s]
      show bnd (f_Wa_tuple u1 5) _ = _
      rw [htup, bnd_s, gd_t a2]
      show bnd (f_Mo_slotLike u1 t (u1 b 1) _) _ = _
      rw [e1r, hv, bnd_s]
      show bnd (f_Wa_cost u1) _ = _
      rw [hcost, bnd_s, hvs]
    have e121 : ∀ (v : World) (y : Int), f_Dm_lowerByRules_121 v (kk : Int) b (i : Int) y = some (Sum.inl (v, y, ((i + 1 : Nat) : Int))) := fun v y => by
      unfold f_Dm_lowerByRules_121
      rw [bl_s, wr_of (x := (i : Int) + 1) ⟨by omega, by omega⟩]
      rfl
    have e116 : ∀ (v : World), f_Dm_lowerByRules_116 v (kk : Int) b (i : Int) = some (Sum.inl (v, 1, ((i + 1 : Nat) : Int))) := fun v => e121 v 1
    have fin : ∀ (u2 : World) (κ1 : Nat → Nat) (x1 : Int), f_Dm_lowerByRules_43B u x (kk : Int) b (i : Int) = some (Sum.inl (u2, x1, ((i + 1 : Nat) : Int))) → (∀ c0, c0 ≠ 151 → u2 c0 = u1 c0) → K151 u2 N κ1 → OnW (SA w) FC N ρ c C κ1 → Dwn N κ κ1 → κ1 s0 ≤ cv → Flg N κ κ1 x x1 → ∃ u' κ' x', f_Dm_lowerByRules_43 u x (kk : Int) b (i : Int) = some (Sum.inl (u', x', ((kk + 1 : Nat) : Int))) ∧ FrC w u' ∧ VV (u' 104) ∧ K151 u' N κ' ∧ OnW (SA w) FC N ρ c C κ' ∧ Dwn N κ κ' ∧ (∀ y, y ∈ a :: l → ∀ s, s < N → ρ s = r → kz ((SA w).kq (r : Int)) (c s) = kz ((SA w).kq (r : Int)) (tc (sg y.1) (RB w b).ht) → κ' s ≤ 1 + sumH (Ck N ρ c κ) (RB w b) (sg y.1)) ∧ Flg N κ κ' x x' ∧ u' 150 = u 150 := fun u2 κ1 x1 f1 f2 f5 f6 f7 f8 f9 => by
      have hF2 : FrC w u2 := fun c0 z1 z2 z3 => (f2 c0 z3).trans (hF1 c0 z1 z2 z3)
      obtain ⟨u', κ', x', p1, p2, p3, p4, p5, p6, p7, p8, p9⟩ := ih u2 κ1 x1 (i + 1) (q5 u2 (fun c0 hc => f2 c0 (by omega))) hF2 (by rw [f2 103 (by omega)]; exact hub1) f5 f6 (fun y hy => hl y (List.mem_cons_of_mem _ hy)) f9.b (by omega)
      refine ⟨u', κ', x', ?_, p2, p3, p4, p5, f7.trans p6, fun y hy s hs hρs hks => ?_, f9.trans p8 f7 p6, by rw [p9, f2 150 (by omega), q2.cell (by omega)]⟩
      · rw [← p1]
        unfold f_Dm_lowerByRules_43
        exact lp_step (F := fun z : (World × Int × Int) => f_Dm_lowerByRules_43B z.1 z.2.1 (kk : Int) b z.2.2) (s := (u, x, (i : Int))) f1
      · rcases List.mem_cons.mp hy with e | hy
        · rw [e] at hks ⊢
          have es : s = s0 := KuQ_A b2 s0 s hs0 hs (by omega) (by rw [hρ0', hk0, hks])
          rw [es, ← hcv]
          exact Nat.le_trans (p6 s0 hs0) f8
        · have h1 := p7 y hy s hs hρs hks
          have h2 := Ck_le hu (hl y (List.mem_cons_of_mem _ hy)).1.2.1 f7
          omega
    by_cases q : κ s0 ≤ cv
    · refine fin u1 κ x ?_ (fun _ _ => rfl) hκ1 hO Dwn.refl q (Flg.refl hx)
      rw [hbody, hlow, if_pos q, bnd_s, if_pos rfl, e116, e121]
      rcases hx with e | e
      · rw [if_pos e, e]
      · rw [if_neg (by omega), e]
    · have hO1 := OnW_low hu hC hO hRR hSa hs0 (by rw [htg]; exact hρ0) (by rw [htg]; exact hk0) (by omega)
      rw [← hcv] at hO1
      refine fin (up u1 151 s0 (cv : Int)) (upn κ s0 cv) 1 ?_ (fun c0 z => by funext k; unfold up; rw [if_neg (fun y => z y.1)]) (K151_low hκ1) hO1 (Dwn_low (by omega)) (by rw [upn_eq]; exact Nat.le_refl _) (Or.inr ⟨rfl, Or.inr ⟨s0, hs0, by rw [upn_eq]; omega⟩⟩)
      rw [hbody, hlow, if_neg q, bnd_s, if_neg z10, e116]
