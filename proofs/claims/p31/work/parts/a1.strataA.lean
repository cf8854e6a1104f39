/-! THE CLASS'S STRATA -/
/-- a body of the class as it may be -/
def RuA (w : World) (b : Nat) : Prop := w b 0 = ((RB w b).ln : Int) ∧ WfR (SA w) (RB w b) ∧ ∃ r : Nat, r < 10 ∧ (RB w b).tg = (r : Int)
theorem RuA.rng {w : World} {b : Nat} (h : RuA w b) : Rng (RB w b) := by
  refine ⟨h.2.2, fun p hp hf => ?_⟩
  obtain ⟨hc1, -⟩ := h.2.1.2.2.1 p hp hf
  obtain ⟨s, hs, hs10, -⟩ := SA_co_in hc1
  exact ⟨s, hs10, hs⟩
/-- the world but for the levels -/
def FrL (w w' : World) : Prop := ∀ c k, c ≠ 21 → ¬ (c = 14 ∧ k = 7) → w' c k = w c k
theorem FrL.refl {w : World} : FrL w w := fun _ _ _ _ => rfl
theorem FrL.trans {w w' w'' : World} (h : FrL w w') (h' : FrL w' w'') : FrL w w'' := fun c k a b => (h' c k a b).trans (h c k a b)
theorem FrL.cell {w w' : World} (h : FrL w w') {c : Nat} (h1 : c ≠ 21) (h2 : c ≠ 14) : w' c = w c := funext (fun k => h c k h1 (fun z => h2 z.1))
theorem FrL.SA {w w' : World} (h : FrL w w') : SA w' = SA w := SA_c5 (fun c a b => h.cell (by omega) (by omega))
theorem FrL.wf {w w' : World} (h : FrL w w') (hS : WfS w) : WfS w' := WfS_congr (fun c a b k => by rw [h.cell (by omega) (by omega)]) hS
theorem FrL.RB {w w' : World} (h : FrL w w') {b : Nat} (hb : 22 ≤ b) : RB w' b = RB w b := RB_congr (h.cell (by omega) (by omega)) (h.cell (by omega) (by omega)) (h.cell (by omega) (by omega)) (h.cell (by omega) (by omega))
theorem FrL.ru {w w' : World} (h : FrL w w') {b : Nat} (hb : 22 ≤ b) (hR : RuA w b) : RuA w' b := by
  unfold RuA
  rw [h.RB hb, h.SA, h.cell (show b ≠ 21 by omega) (by omega)]
  exact hR
/-- the levels and the top -/
def LA (w : World) (L : Nat → Nat) (top : Nat) : Prop := (∀ q, q < 10 → w 21 q = (L q : Int)) ∧ w 14 7 = (top : Int) ∧ (∀ q, q < 10 → L q ≤ top) ∧ (top = 0 ∨ ∃ q, q < 10 ∧ L q = top)
theorem isAtom_n {w : World} {b p : Nat} (hp : p < 5) : ∃ v, f_Bo_isAtom w b (p : Int) = some v ∧ ((v = 1 ∧ ((RB w b).fm p = 0 ∨ (RB w b).fm p = 1)) ∨ (v = 0 ∧ ¬ ((RB w b).fm p = 0 ∨ (RB w b).fm p = 1))) := by
  have e : w (b + 1) p = (RB w b).fm p := rfl
  unfold f_Bo_isAtom f_Bo_isAtom_17
  rw [formOf_n hp, bnd_s, e]
  by_cases f0 : (RB w b).fm p = 0
  · rw [if_pos f0]; exact ⟨1, rfl, Or.inl ⟨rfl, Or.inl f0⟩⟩
  · rw [if_neg f0, bnd_s]
    by_cases f1 : (RB w b).fm p = 1
    · rw [if_pos f1]; exact ⟨1, rfl, Or.inl ⟨rfl, Or.inr f1⟩⟩
    · rw [if_neg f1]; exact ⟨0, rfl, Or.inr ⟨rfl, fun z => z.elim f0 f1⟩⟩
theorem isAbove_n {w : World} {b p : Nat} (hS : WfS w) (hR : RuA w b) (hp : p < (RB w b).ln) (hf : (RB w b).fm p = 0 ∨ (RB w b).fm p = 1) : f_Pr_isAbove w b (p : Int) = some ((av (SA w) (RB w b) p : Nat) : Int) := by
  obtain ⟨hb0, hWf, htg⟩ := id hR
  have hp5 : p < 5 := Nat.lt_of_lt_of_le hp hWf.1
  obtain ⟨s, hs10, hs⟩ := hR.rng.2 p hp (by omega)
  have e : w (b + 1) p = (RB w b).fm p := rfl
  have esub : f_Bo_subjectOf w b (p : Int) = some (s : Int) := by
    rw [subjectOf_n hp5]
    show some ((RB w b).sj p) = _
    rw [hs]
  have hk := (hS s hs10).2.1
  have eki : (SA w).ki ((RB w b).sj p) = (w 4 s).toNat := by rw [hs, SA_ki hs10]
  unfold f_Pr_isAbove f_Pr_isAbove_33
  rw [formOf_n hp5, bnd_s, e]
  rcases hf with f0 | f1
  · rw [if_neg (by omega), esub, bnd_s, kindOf_n hs10, bnd_s]
    by_cases k0 : w 4 s = 0
    · rw [if_pos k0, av_0 (fun z => by rcases z with z | z; omega; exact z.2.1 (by rw [eki]; omega))]
      rfl
    · rw [if_neg k0]
      obtain ⟨v, hv, hv2⟩ := growsA_n hS hb0 hWf htg hp f0
      rw [hv, bnd_s]
      rcases hv2 with ⟨rfl, hg⟩ | ⟨rfl, hg⟩
      · rw [if_neg (by decide), av_0 (fun z => by rcases z with z | z; omega; exact z.2.2 hg)]
        rfl
      · rw [if_pos rfl, av_1 (Or.inr ⟨f0, by rw [eki]; omega, hg⟩)]
        rfl
  · rw [if_pos f1, av_1 (Or.inl f1)]
    rfl
theorem raise_lit {w : World} {b p : Nat} {x3 : Int} {L : Nat → Nat} {top : Nat} (hS : WfS w) (hR : RuA w b) (hb : 22 ≤ b) (hp : p < (RB w b).ln) (hL : LA w L top) (htop : top < 100000) (hx : x3 = 0 ∨ x3 = 1) (hrm : w b 2 = 0) :
    ∃ w' x3' top', f_Pr_raise_10B w b (RB w b).tg x3 (p : Int) = some (Sum.inl (w', x3', ((p + 1 : Nat) : Int))) ∧ FrL w w' ∧ LA w' (stp (SA w) (RB w b) L p) top' ∧ top' ≤ top + 1 ∧ ((x3' = 1 ∧ (x3 = 1 ∨ stp (SA w) (RB w b) L p ≠ L)) ∨ (x3' = 0 ∧ x3 = 0 ∧ stp (SA w) (RB w b) L p = L)) := by
  obtain ⟨hb0, hWf, ⟨r, hr10, hr⟩⟩ := id hR
  have hp5 : p < 5 := Nat.lt_of_lt_of_le hp hWf.1
  obtain ⟨L1, L2, L3, L4⟩ := id hL
  have hcast : wr ((p : Int) + 1) = ((p + 1 : Nat) : Int) := by rw [wr_of (x := (p : Int) + 1) ⟨by omega, by omega⟩]; rfl
  have out : ∀ (w : World) (x : Int), f_Pr_raise_110 w b (r : Int) x (p : Int) = some (Sum.inl (w, x, ((p + 1 : Nat) : Int))) := fun w x => by
    unfold f_Pr_raise_110
    rw [bl_s, hcast]
  have same : stp (SA w) (RB w b) L p = L → ((x3 = 1 ∧ (x3 = 1 ∨ stp (SA w) (RB w b) L p ≠ L)) ∨ (x3 = 0 ∧ x3 = 0 ∧ stp (SA w) (RB w b) L p = L)) := fun h => by
    rcases hx with q | q
    · exact Or.inr ⟨q, q, h⟩
    · exact Or.inl ⟨q, Or.inl q⟩
  obtain ⟨v, hv, hv2⟩ := isAtom_n (w := w) (b := b) hp5
  rw [hr]
  unfold f_Pr_raise_10B
  rw [hb0, if_neg (by omega), if_pos hrm, hv, bnd_s]
  rcases hv2 with ⟨rfl, hf⟩ | ⟨rfl, hf⟩
  · obtain ⟨s, hs10, hs⟩ := hR.rng.2 p hp (by omega)
    have esub : f_Bo_subjectOf w b (p : Int) = some (s : Int) := by
      rw [subjectOf_n hp5]
      show some ((RB w b).sj p) = _
      rw [hs]
    have ha := av_le (D := SA w) (R := RB w b) (p := p)
    have hls := L3 s hs10
    have hlsv : lsv (SA w) (RB w b) L p = L s + av (SA w) (RB w b) p := by
      unfold lsv
      rw [if_pos (by omega), hs, Int.toNat_natCast]
    have etg : (RB w b).tg.toNat = r := by rw [hr, Int.toNat_natCast]
    rw [if_neg (by decide), if_neg (by omega), if_neg (by omega), esub, bnd_s, levelOf_n hs10, bnd_s, isAbove_n hS hR hp hf, bnd_s, L1 s hs10]
    have r73 : f_Pr_raise_73 w b (r : Int) x3 (p : Int) (L s : Int) ((av (SA w) (RB w b) p : Nat) : Int) = if L s + av (SA w) (RB w b) p ≤ L r then some (Sum.inl (w, x3, ((p + 1 : Nat) : Int))) else some (Sum.inl (up (up w 21 r ((L s + av (SA w) (RB w b) p : Nat) : Int)) 14 7 ((max top (L s + av (SA w) (RB w b) p) : Nat) : Int), 1, ((p + 1 : Nat) : Int))) := by
      unfold f_Pr_raise_73
      rw [bl_s, wr_of (x := (L s : Int) + ((av (SA w) (RB w b) p : Nat) : Int)) ⟨by omega, by omega⟩, gd_t ⟨by omega, by omega⟩, Int.toNat_natCast, L1 r hr10]
      by_cases q : L s + av (SA w) (RB w b) p ≤ L r
      · rw [if_pos (by omega), if_pos q, out]
      · rw [if_neg (by omega), if_neg q, gd_t ⟨by omega, by omega⟩, bl_s, bl_s]
        have e1 : up w 21 r ((L s : Int) + ((av (SA w) (RB w b) p : Nat) : Int)) 14 7 = (top : Int) := by simp [up, L2]
        have e2 : imax (top : Int) ((L s : Int) + ((av (SA w) (RB w b) p : Nat) : Int)) = ((max top (L s + av (SA w) (RB w b) p) : Nat) : Int) := by
          unfold imax
          split <;> omega
        rw [e1, e2, out]
        rfl
    have goal2 : (if ((av (SA w) (RB w b) p : Nat) : Int) = 0 then f_Pr_raise_73 w b (r : Int) x3 (p : Int) (L s : Int) 0 else f_Pr_raise_73 w b (r : Int) x3 (p : Int) (L s : Int) 1) = f_Pr_raise_73 w b (r : Int) x3 (p : Int) (L s : Int) ((av (SA w) (RB w b) p : Nat) : Int) := by
      by_cases q : abv (SA w) (RB w b) p
      · rw [av_1 q]; rfl
      · rw [av_0 q]; rfl
    rw [goal2, r73]
    by_cases q : L s + av (SA w) (RB w b) p ≤ L r
    · rw [if_pos q]
      have hst : stp (SA w) (RB w b) L p = L := stp_eq.mpr (by rw [hlsv, etg]; exact q)
      exact ⟨w, x3, top, rfl, FrL.refl, by rw [hst]; exact hL, by omega, same hst⟩
    · rw [if_neg q]
      have hst : stp (SA w) (RB w b) L p = upn L r (L s + av (SA w) (RB w b) p) := by
        unfold stp
        rw [hlsv, etg, if_pos (by omega)]
      have hne : stp (SA w) (RB w b) L p ≠ L := fun e => by
        have := congrFun e r
        rw [hst, upn_eq] at this
        omega
      refine ⟨_, 1, max top (L s + av (SA w) (RB w b) p), rfl, fun c k h1 h2 => ?_, ⟨fun q' hq' => ?_, by simp [up], fun q' hq' => ?_, ?_⟩, by omega, Or.inl ⟨rfl, Or.inr hne⟩⟩
      · unfold up
        rw [if_neg h2, if_neg (fun z => h1 z.1)]
      · rw [hst]
        by_cases e : q' = r
        · subst e
          rw [upn_eq]
          simp [up]
        · rw [upn_ne e, ← L1 q' hq']
          simp [up, e]
      · rw [hst]
        by_cases e : q' = r
        · subst e; rw [upn_eq]; omega
        · rw [upn_ne e]; have := L3 q' hq'; omega
      · rw [hst]
        by_cases e : top ≤ L s + av (SA w) (RB w b) p
        · right
          exact ⟨r, hr10, by rw [upn_eq]; omega⟩
        · rcases L4 with z | ⟨q', hq', e'⟩
          · omega
          · right
            refine ⟨q', hq', ?_⟩
            rw [upn_ne (fun z => by subst z; omega)]
            omega
  · rw [if_pos rfl, out]
    have hst : stp (SA w) (RB w b) L p = L := by
      refine stp_eq.mpr ?_
      unfold lsv
      have hfm := hWf.2.1 p hp
      rw [if_neg (fun z => hf (by omega))]
      omega
    exact ⟨w, x3, top, rfl, FrL.refl, by rw [hst]; exact hL, by omega, same hst⟩
theorem raise_n {w : World} {b : Nat} {L : Nat → Nat} {top : Nat} (hS : WfS w) (hR : RuA w b) (hb : 22 ≤ b) (hL : LA w L top) (htop : top < 90000) :
    ∃ w' x' top', f_Pr_raise w b = some (w', x') ∧ FrL w w' ∧ LA w' (if w b 2 = 0 then lits (SA w) (RB w b) L (RB w b).ln else L) top' ∧ top' ≤ top + 5 ∧ ((x' = 1 ∧ (if w b 2 = 0 then lits (SA w) (RB w b) L (RB w b).ln else L) ≠ L) ∨ (x' = 0 ∧ (if w b 2 = 0 then lits (SA w) (RB w b) L (RB w b).ln else L) = L)) := by
  obtain ⟨hb0, hWf, htg⟩ := id hR
  have h5 := hWf.1
  have e1 : w b 1 = (RB w b).tg := rfl
  have eq : f_Pr_raise w b = f_Pr_raise_10 w b (RB w b).tg 0 ((0 : Nat) : Int) := by
    unfold f_Pr_raise
    rw [bl_s, e1]
    rfl
  rw [eq]
  by_cases hrm : w b 2 = 0
  · rw [if_pos hrm]
    have loop : ∀ (j k : Nat) (w1 : World) (x : Int) (t1 : Nat), k + j = (RB w b).ln → FrL w w1 → LA w1 (lits (SA w) (RB w b) L k) t1 → t1 ≤ top + k → ((x = 1 ∧ lits (SA w) (RB w b) L k ≠ L) ∨ (x = 0 ∧ lits (SA w) (RB w b) L k = L)) → ∃ w' x' top', f_Pr_raise_10 w1 b (RB w b).tg x (k : Int) = some (w', x') ∧ FrL w w' ∧ LA w' (lits (SA w) (RB w b) L (RB w b).ln) top' ∧ top' ≤ top + 5 ∧ ((x' = 1 ∧ lits (SA w) (RB w b) L (RB w b).ln ≠ L) ∨ (x' = 0 ∧ lits (SA w) (RB w b) L (RB w b).ln = L)) := by
      intro j
      induction j with
      | zero =>
        intro k w1 x t1 hk hF hL1 ht hx
        have e : k = (RB w b).ln := by omega
        rw [← e]
        refine ⟨w1, x, t1, ?_, hF, hL1, by omega, hx⟩
        have hx01 : x = 0 ∨ x = 1 := hx.elim (fun z => Or.inr z.1) (fun z => Or.inl z.1)
        unfold f_Pr_raise_10
        refine lp_out ?_
        show f_Pr_raise_10B w1 b (RB w b).tg x (k : Int) = _
        unfold f_Pr_raise_10B
        rw [hF.cell (show b ≠ 21 by omega) (by omega), hb0, if_pos (by omega), gd_t hx01]
      | succ j ih =>
        intro k w1 x t1 hk hF hL1 ht hx
        have hx01 : x = 0 ∨ x = 1 := hx.elim (fun z => Or.inr z.1) (fun z => Or.inl z.1)
        obtain ⟨w2, x2, t2, er, hF2, hL2, ht2, hx2⟩ := raise_lit (x3 := x) (hF.wf hS) (hF.ru hb hR) hb (p := k) (by rw [hF.RB hb]; omega) hL1 (by omega) hx01 (by rw [hF.cell (show b ≠ 21 by omega) (by omega)]; exact hrm)
        rw [hF.RB hb] at er hL2 hx2
        rw [hF.SA] at hL2 hx2
        have es : stp (SA w) (RB w b) (lits (SA w) (RB w b) L k) k = lits (SA w) (RB w b) L (k + 1) := rfl
        rw [es] at hL2 hx2
        obtain ⟨w', x', top', er', h'⟩ := ih (k + 1) w2 x2 t2 (by omega) (hF.trans hF2) hL2 (by omega) (by
          rcases hx2 with ⟨a, b1⟩ | ⟨a, a2, b1⟩
          · refine Or.inl ⟨a, fun e => ?_⟩
            have hmono : lits (SA w) (RB w b) L k = L := funext fun q => Nat.le_antisymm (by
              have h1 := stp_le (D := SA w) (R := RB w b) (L := lits (SA w) (RB w b) L k) (p := k) q
              have h2 := congrFun e q
              have h3 : lits (SA w) (RB w b) L (k + 1) q = stp (SA w) (RB w b) (lits (SA w) (RB w b) L k) k q := rfl
              omega) (lits_le k q)
            rcases b1 with b1 | b1
            · rcases hx with z | z
              · exact z.2 hmono
              · omega
            · exact b1 (e.trans hmono.symm)
          · refine Or.inr ⟨a, b1.trans ?_⟩
            rcases hx with z | z
            · omega
            · exact z.2)
        refine ⟨w', x', top', ?_, h'⟩
        rw [← er']
        unfold f_Pr_raise_10
        exact lp_step (s := (w1, x, (k : Int))) er
    exact loop (RB w b).ln 0 w 0 top (by omega) FrL.refl hL (by omega) (Or.inr ⟨rfl, rfl⟩)
  · rw [if_neg hrm]
    refine ⟨w, 0, top, ?_, FrL.refl, hL, by omega, Or.inr ⟨rfl, rfl⟩⟩
    unfold f_Pr_raise_10
    refine lp_out ?_
    show f_Pr_raise_10B w b (RB w b).tg 0 ((0 : Nat) : Int) = _
    unfold f_Pr_raise_10B
    by_cases q : w b 0 ≤ ((0 : Nat) : Int)
    · rw [if_pos q, gd_t (Or.inl rfl)]
    · rw [if_neg q, if_neg hrm, gd_t (Or.inl rfl)]
/-- the class's program as strata are found of it -/
def PgA (w : World) (m : Nat) : Prop := WfS w ∧ w 14 4 = (m : Int) ∧ m ≤ 12 ∧ (∀ j : Nat, j < 12 → w 19 j = ((22 + 4 * j : Nat) : Int)) ∧ ∀ j, j < m → RuA w (22 + 4 * j)
def FA (w : World) : Nat → RU := fun j => RB w (22 + 4 * j)
def GA (w : World) : Nat → Prop := fun j => w (22 + 4 * j) 2 = 0
theorem PgA.fr {w w' : World} {m : Nat} (hF : FrL w w') (h : PgA w m) : PgA w' m := by
  obtain ⟨h1, h2, h3, h4, h5⟩ := h
  exact ⟨hF.wf h1, by rw [hF 14 4 (by decide) (fun z => absurd z.2 (by decide))]; exact h2, h3, by rw [hF.cell (by decide) (by decide)]; exact h4, fun j hj => hF.ru (by omega) (h5 j hj)⟩
theorem FrL.FA {w w' : World} (h : FrL w w') : FA w' = FA w := funext fun j => h.RB (by omega)
theorem FrL.GA {w w' : World} (h : FrL w w') : GA w' = GA w := funext fun j => by unfold _root_.Jvm.Pilot.CDatalogmillLaw_law_r3490_62b6eb.GA; rw [h.cell (show 22 + 4 * j ≠ 21 by omega) (by omega)]
theorem sweepA {w : World} {m : Nat} {L : Nat → Nat} {top : Nat} {x2 : Int} (hP : PgA w m) (hL : LA w L top) (htop : top < 50000) (hx2 : 0 ≤ x2 ∧ x2 < 20000) :
    ∃ w' x' top', f_Pr_stratify_57 w 0 x2 0 = some (Sum.inl (w', x', x2 + 1)) ∧ FrL w w' ∧ LA w' (rls (SA w) (FA w) (GA w) L m) top' ∧ top' ≤ top + 60 ∧ ((x' = 1 ∧ rls (SA w) (FA w) (GA w) L m ≠ L) ∨ (x' = 0 ∧ rls (SA w) (FA w) (GA w) L m = L)) := by
  obtain ⟨hS, h4, hm12, h19, hRu⟩ := id hP
  have loop : ∀ (j k : Nat) (w1 : World) (x : Int) (t1 : Nat), k + j = m → FrL w w1 → LA w1 (rls (SA w) (FA w) (GA w) L k) t1 → t1 ≤ top + 5 * k → ((x = 1 ∧ rls (SA w) (FA w) (GA w) L k ≠ L) ∨ (x = 0 ∧ rls (SA w) (FA w) (GA w) L k = L)) → ∃ w' x' top', f_Pr_stratify_57 w1 x x2 (k : Int) = some (Sum.inl (w', x', x2 + 1)) ∧ FrL w w' ∧ LA w' (rls (SA w) (FA w) (GA w) L m) top' ∧ top' ≤ top + 60 ∧ ((x' = 1 ∧ rls (SA w) (FA w) (GA w) L m ≠ L) ∨ (x' = 0 ∧ rls (SA w) (FA w) (GA w) L m = L)) := by
    intro j
    induction j with
    | zero =>
      intro k w1 x t1 hk hF hL1 ht hx
      have e : k = m := by omega
      rw [← e]
      refine ⟨w1, x, t1, ?_, hF, hL1, by omega, hx⟩
      unfold f_Pr_stratify_57
      refine lp_out ?_
      show f_Pr_stratify_57B w1 x x2 (k : Int) = _
      unfold f_Pr_stratify_57B
      rw [hF 14 4 (by decide) (fun z => absurd z.2 (by decide)), h4, if_pos (by omega), bl_s, wr_of (x := x2 + 1) ⟨by omega, by omega⟩]
    | succ j ih =>
      intro k w1 x t1 hk hF hL1 ht hx
      have hk12 : k < 12 := by omega
      have hb : 22 ≤ 22 + 4 * k := by omega
      have hcast : wr ((k : Int) + 1) = ((k + 1 : Nat) : Int) := by rw [wr_of (x := (k : Int) + 1) ⟨by omega, by omega⟩]; rfl
      obtain ⟨w2, x', t2, er, hF2, hL2, ht2, hx'⟩ := raise_n (hF.wf hS) (hF.ru hb (hRu k (by omega))) hb hL1 (by omega)
      have e2 : w1 (22 + 4 * k) 2 = w (22 + 4 * k) 2 := by rw [hF.cell (show 22 + 4 * k ≠ 21 by omega) (by omega)]
      rw [e2, hF.RB hb, hF.SA] at hL2 hx'
      have es : (if w (22 + 4 * k) 2 = 0 then lits (SA w) (RB w (22 + 4 * k)) (rls (SA w) (FA w) (GA w) L k) (RB w (22 + 4 * k)).ln else rls (SA w) (FA w) (GA w) L k) = rls (SA w) (FA w) (GA w) L (k + 1) := by
        by_cases q : w (22 + 4 * k) 2 = 0
        · rw [if_pos q]; exact (rls_s1 (D := SA w) (F := FA w) (G := GA w) (L := L) (n := k) q).symm
        · rw [if_neg q]; exact (rls_s0 (D := SA w) (F := FA w) (G := GA w) (L := L) (n := k) q).symm
      rw [es] at hL2 hx'
      obtain ⟨x2', hx2', hb2⟩ : ∃ x2', (x2' = if x' = 0 then x else 1) ∧ ((x2' = 1 ∧ rls (SA w) (FA w) (GA w) L (k + 1) ≠ L) ∨ (x2' = 0 ∧ rls (SA w) (FA w) (GA w) L (k + 1) = L)) := by
        refine ⟨_, rfl, ?_⟩
        have hmono : rls (SA w) (FA w) (GA w) L (k + 1) = L → rls (SA w) (FA w) (GA w) L k = L := fun e => funext fun q => Nat.le_antisymm (by
          have h2 := congrFun e q
          by_cases g : GA w k
          · rw [rls_s1 g] at h2
            have h1 := lits_le (D := SA w) (R := FA w k) (L := rls (SA w) (FA w) (GA w) L k) (FA w k).ln q
            omega
          · rw [rls_s0 g] at h2; omega) (rls_le k q)
        rcases hx' with ⟨a, b⟩ | ⟨a, b⟩
        · rw [if_neg (by omega)]
          exact Or.inl ⟨rfl, fun e => b (e.trans (hmono e).symm)⟩
        · rw [if_pos a]
          rcases hx with z | z
          · exact Or.inl ⟨z.1, fun e => z.2 (b.symm.trans e)⟩
          · exact Or.inr ⟨z.1, b.trans z.2⟩
      obtain ⟨w', x'', top', er', h'⟩ := ih (k + 1) w2 x2' t2 (by omega) (hF.trans hF2) hL2 (by omega) hb2
      refine ⟨w', x'', top', ?_, h'⟩
      rw [← er']
      unfold f_Pr_stratify_57
      refine lp_step (s := (w1, x, (k : Int))) ?_
      show f_Pr_stratify_57B w1 x x2 (k : Int) = _
      have hx01 : x = 0 ∨ x = 1 := hx.elim (fun z => Or.inr z.1) (fun z => Or.inl z.1)
      unfold f_Pr_stratify_57B f_Pr_stratify_81 f_Pr_stratify_86
      rw [hF 14 4 (by decide) (fun z => absurd z.2 (by decide)), h4, if_neg (by omega), rule_n hk12 (by rw [hF.cell (by decide) (by decide)]; exact h19 k hk12), bnd_s, gd_t (kd_rule k hk12), er, bnd_s, bl_s, bl_s, hcast, hx2']
      show (if x' = 0 then _ else _) = _
      by_cases q : x' = 0
      · rw [if_pos q, if_pos q]
        rcases hx01 with z | z
        · rw [if_pos z, z]
        · rw [if_neg (by omega), z]
      · rw [if_neg q, if_neg q]
  exact loop m 0 w 0 top (by omega) FrL.refl hL (by omega) (Or.inr ⟨rfl, rfl⟩)
theorem strat99 {w : World} {top : Nat} (h : w 14 7 = (top : Int)) : f_Pr_stratify_99 w = some (w, if 10 ≤ top then 0 else 1) := by
  unfold f_Pr_stratify_99
  rw [h]
  by_cases q : 10 ≤ top
  · rw [if_pos q, if_pos (by omega)]
  · rw [if_neg q, if_neg (by omega)]
theorem strat33_out {w : World} {top i : Nat} {x : Int} (h : w 14 7 = (top : Int)) (hx : x = 0 ∨ 10 ≤ top) : f_Pr_stratify_33 w x (i : Int) = some (w, if 10 ≤ top then 0 else 1) := by
  unfold f_Pr_stratify_33
  refine lp_out ?_
  show f_Pr_stratify_33B w x (i : Int) = _
  unfold f_Pr_stratify_33B
  rw [strat99 h, bnd_s, h]
  by_cases q1 : (10000 : Int) ≤ (i : Int)
  · rw [if_pos q1]
  · rw [if_neg q1]
    by_cases q2 : x = 0
    · rw [if_pos q2]
    · have q3 := hx.resolve_left q2
      rw [if_neg q2, if_pos (show (10 : Int) ≤ (top : Int) by omega)]
theorem stratA_end {w w1 : World} {m top i : Nat} {x : Int} {L : Nat → Nat} (hF : FrL w w1) (hL : LA w1 L top) (hsol : ∀ lv, SolL (SA w) (Rof (FA w) (GA w) m) lv → ∀ q : Nat, q < 10 → L q ≤ lv (q : Int)) (hx : (x = 0 ∧ SolL (SA w) (Rof (FA w) (GA w) m) (lvf L)) ∨ 10 ≤ top) :
    ∃ w' v L' top', f_Pr_stratify_33 w1 x (i : Int) = some (w', v) ∧ FrL w w' ∧ LA w' L' top' ∧ StR (SA w) (Rof (FA w) (GA w) m) L' v ∧ (v = 1 → top' < 10) := by
  refine ⟨w1, _, L, top, strat33_out hL.2.1 (hx.imp (fun z => z.1) (fun z => z)), hF, hL, ⟨hsol, ?_⟩, fun e => ?_⟩
  · by_cases h10 : 10 ≤ top
    · obtain ⟨q, hq, eq⟩ : ∃ q, q < 10 ∧ L q = top := hL.2.2.2.resolve_left (by omega)
      exact Or.inr ⟨if_pos h10, q, hq, by omega⟩
    · exact Or.inl ⟨if_neg h10, (hx.resolve_right h10).2⟩
  · refine Classical.byContradiction fun hn => ?_
    rw [if_pos (by omega)] at e
    exact absurd e (by decide)
theorem stratA_loop {w : World} {m : Nat} (hP : PgA w m) : ∀ (N i : Nat) (w1 : World) (x : Int) (L : Nat → Nat) (top : Nat), FrL w w1 → LA w1 L top → (∀ lv, SolL (SA w) (Rof (FA w) (GA w) m) lv → ∀ q : Nat, q < 10 → L q ≤ lv (q : Int)) → (x = 1 ∨ (x = 0 ∧ SolL (SA w) (Rof (FA w) (GA w) m) (lvf L))) → 100 ≤ sumN L 10 + N → i + N < 9000 → top < 1000 →
    ∃ w' v L' top', f_Pr_stratify_33 w1 x (i : Int) = some (w', v) ∧ FrL w w' ∧ LA w' L' top' ∧ StR (SA w) (Rof (FA w) (GA w) m) L' v ∧ (v = 1 → top' < 10) := by
  have hg : ∀ i, i < m → Rng (FA w i) := fun i hi => (hP.2.2.2.2 i hi).rng
  intro N
  induction N with
  | zero =>
    intro i w1 x L top hF hL hsol hx hN hi htop
    have h10 : 10 ≤ top := by
      refine Classical.byContradiction fun hn => ?_
      have h9 : ∀ q, q < 10 → L q ≤ 9 := fun q hq => by have := hL.2.2.1 q hq; omega
      have a0 := h9 0 (by omega); have a1 := h9 1 (by omega); have a2 := h9 2 (by omega); have a3 := h9 3 (by omega); have a4 := h9 4 (by omega); have a5 := h9 5 (by omega); have a6 := h9 6 (by omega); have a7 := h9 7 (by omega); have a8 := h9 8 (by omega); have a9 := h9 9 (by omega)
      simp only [sumN] at hN
      omega
    exact stratA_end hF hL hsol (Or.inr h10)
  | succ N ih =>
    intro i w1 x L top hF hL hsol hx hN hi htop
    have h7 := hL.2.1
    by_cases hx0 : x = 0
    · exact stratA_end hF hL hsol (Or.inl ⟨hx0, (hx.resolve_left (by omega)).2⟩)
    · by_cases h10 : 10 ≤ top
      · exact stratA_end hF hL hsol (Or.inr h10)
      · obtain ⟨w2, x', top2, er, hF2, hL2, ht2, hx'⟩ := sweepA (x2 := (i : Int)) (hP.fr hF) hL (by omega) ⟨by omega, by omega⟩
        rw [hF.SA, hF.FA, hF.GA] at hL2 hx'
        have hsol2 : ∀ lv, SolL (SA w) (Rof (FA w) (GA w) m) lv → ∀ q : Nat, q < 10 → rls (SA w) (FA w) (GA w) L m q ≤ lv (q : Int) := fun lv hlv => rls_sol hlv hg (hsol lv hlv) m (Nat.le_refl _)
        have e : f_Pr_stratify_33 w1 x (i : Int) = f_Pr_stratify_33 w2 x' ((i + 1 : Nat) : Int) := by
          unfold f_Pr_stratify_33
          refine lp_step (s := (w1, x, (i : Int))) ?_
          show f_Pr_stratify_33B w1 x (i : Int) = _
          unfold f_Pr_stratify_33B
          rw [if_neg (by omega), if_neg hx0, h7, if_neg (by omega), er]
          rfl
        rw [e]
        rcases hx' with ⟨a, b⟩ | ⟨a, b⟩
        · have hlt : sumN L 10 < sumN (rls (SA w) (FA w) (GA w) L m) 10 := by
            have hex : ∃ q, q < 10 ∧ L q < rls (SA w) (FA w) (GA w) L m q := by
              refine Classical.byContradiction fun hn => b (funext fun q => ?_)
              by_cases hq : q < 10
              · have h1 := rls_le (D := SA w) (F := FA w) (G := GA w) (L := L) m q
                refine Nat.le_antisymm ?_ h1
                refine Classical.byContradiction fun hn2 => hn ⟨q, hq, by omega⟩
              · exact rls_out (fun i hi => (hg i hi).1) m (Nat.le_refl _) q (by omega)
            obtain ⟨q, hq, hlt⟩ := hex
            exact sumN_lt (fun i => rls_le m i) 10 q hq hlt
          exact ih (i + 1) w2 x' _ top2 (hF.trans hF2) hL2 hsol2 (Or.inl a) (by omega) (by omega) (by omega)
        · exact stratA_end (hF.trans hF2) hL2 hsol2 (Or.inl ⟨a, by rw [b]; exact rls_fix hg b⟩)
/-- the class's strata -/
theorem stratify_n {w : World} {m : Nat} (hP : PgA w m) : ∃ w' v L top, f_Pr_stratify w = some (w', v) ∧ FrL w w' ∧ LA w' L top ∧ StR (SA w) (Rof (FA w) (GA w) m) L v ∧ (v = 1 → top < 10) := by
  let g : Nat → World := fun i => fun c k => if c = 21 ∧ k < i then 0 else w c k
  obtain ⟨w1, hw1⟩ : ∃ w1, w1 = up (g 10) 14 7 0 := ⟨_, rfl⟩
  have hF : FrL w w1 := fun c k h1 h2 => by
    rw [hw1]
    show (if c = 14 ∧ k = 7 then 0 else if c = 21 ∧ k < 10 then 0 else w c k) = w c k
    rw [if_neg h2, if_neg (fun z => h1 z.1)]
  have hL : LA w1 (fun _ => 0) 0 := ⟨fun q hq => by
    rw [hw1]
    show (if 21 = 14 ∧ q = 7 then (0 : Int) else if 21 = 21 ∧ q < 10 then 0 else w 21 q) = _
    rw [if_neg (fun z => absurd z.1 (by decide)), if_pos ⟨rfl, hq⟩]
    rfl, by rw [hw1]; simp [up], fun _ _ => Nat.le_refl _, Or.inl rfl⟩
  obtain ⟨w', v, L, top, er, h1, h2, h3, h4⟩ := stratA_loop hP 100 0 w1 1 (fun _ => 0) 0 hF hL (fun lv _ q _ => Nat.zero_le _) (Or.inl rfl) (Nat.le_add_left _ _) (by omega) (by omega)
  refine ⟨w', v, L, top, ?_, h1, h2, h3, h4⟩
  have h := lp_go (F := fun z : (World × Int) => f_Pr_stratify_2B z.1 z.2) (fun i => (g i, (i : Int))) (w', v) 10 (fun i hi => by
    show f_Pr_stratify_2B (g i) (i : Int) = some (Sum.inl (g (i + 1), ((i + 1 : Nat) : Int)))
    unfold f_Pr_stratify_2B
    rw [if_neg (by omega), gd_t ⟨by omega, by omega⟩, bl_s, bl_s, wr_of (x := (i : Int) + 1) ⟨by omega, by omega⟩, Int.toNat_natCast]
    have e : up (g i) 21 i 0 = g (i + 1) := by
      funext c k
      show (if c = 21 ∧ k = i then 0 else if c = 21 ∧ k < i then 0 else w c k) = if c = 21 ∧ k < i + 1 then 0 else w c k
      by_cases q : c = 21
      · by_cases q1 : k = i
        · rw [if_pos ⟨q, q1⟩, if_pos ⟨q, by omega⟩]
        · by_cases q2 : k < i
          · rw [if_neg (fun z => q1 z.2), if_pos ⟨q, q2⟩, if_pos ⟨q, by omega⟩]
          · rw [if_neg (fun z => q1 z.2), if_neg (fun z => q2 z.2), if_neg (fun z => q2 (by omega))]
      · rw [if_neg (fun z => q z.1), if_neg (fun z => q z.1), if_neg (fun z => q z.1)]
    rw [e]
    rfl) (by
    show f_Pr_stratify_2B (g 10) ((10 : Nat) : Int) = _
    have er' : f_Pr_stratify_33 w1 1 0 = some (w', v) := er
    unfold f_Pr_stratify_2B
    rw [if_pos (by decide), bl_s, ← hw1, er', bnd_s])
  have e0 : g 0 = w := by
    funext c k
    show (if c = 21 ∧ k < 0 then (0 : Int) else w c k) = w c k
    rw [if_neg (fun z => absurd z.2 (Nat.not_lt_zero k))]
  have h : lp (fun z : (World × Int) => f_Pr_stratify_2B z.1 z.2) (g 0, ((0 : Nat) : Int)) = some (w', v) := h
  rw [e0] at h
  unfold f_Pr_stratify f_Pr_stratify_2
  exact h
