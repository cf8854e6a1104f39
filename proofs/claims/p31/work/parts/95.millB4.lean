/-! THE REFERENCE'S ROUNDS: what a walk is sure to find; all rules -/
def pathX (X : Nat → Nat) : Nat → Nat → List Nat → List Nat
  | 0, _, pa => pa
  | k + 1, d, pa => pathX X k (d + 1) (X d :: pa)
/-- the slots of an assignment -/
def SlX (R : RU) (E n : Nat) (ρ c : Nat → Nat) (σ X : Nat → Nat) : Prop := ∀ d, d < E → (R.fm d = 0 → X d < n ∧ (ρ (X d) : Int) = R.sj d ∧ c (X d) = tc σ (R.tm d)) ∧ (R.fm d ≠ 0 → X d = 0)
theorem own_pathB {D : SH} {R : RU} {E n : Nat} {ρ c : Nat → Nat} {σ X : Nat → Nat} (hQ : WkQ D R E) (hσ : VA σ) (hl : ∀ d, d < E → lit (AM n ρ c) R σ d) (hX : SlX R E n ρ c σ X) :
    ∀ (k d : Nat) (vs : Nat → Int) (pa : List Nat), d + k = E → VV vs → CovQ R d vs → Cons σ vs → ∃ v', En (oq D (AM n ρ c) R ρ c) (fun d => cand R n d 0) k d vs pa (v', pathX X k d pa) ∧ Cons σ v' ∧ VV v' ∧ CovQ R E v' ∧ Ext vs v' := by
  intro k
  induction k with
  | zero => intro d vs pa hd hV hcov hK; exact ⟨vs, rfl, hK, hV, by rw [← hd]; exact hcov, Ext.refl⟩
  | succ k ih =>
    intro d vs pa hd hV hcov hK
    have hdE : d < E := by omega
    obtain ⟨hx0, hx1⟩ := hX d hdE
    obtain ⟨q, hq, hKq⟩ := oq_cons (D := D) (M := AM n ρ c) (ρ := ρ) (c := c) (s := X d) hQ hdE hV hcov hσ hK (hl d hdE) (fun f0 => (hx0 f0).2)
    have hok := oq_ok hQ hdE hV hcov hq
    obtain ⟨v', hE, h1, h2, h3, h4⟩ := ih (d + 1) q.1 (X d :: pa) (by omega) hok.1 hok.2.2 hKq
    refine ⟨v', ⟨X d, ?_, q, hq, hE⟩, h1, h2, h3, Ext.trans (Bnd_ext hok.2.1) h4⟩
    show X d ∈ cand R n d 0
    unfold cand
    by_cases f0 : R.fm d = 0
    · rw [if_pos f0, List.mem_range'_1]
      have := (hx0 f0).1
      omega
    · rw [if_neg f0, if_pos rfl, hx1 f0]
      exact List.mem_singleton.mpr rfl
theorem slX_ex {R : RU} {E n : Nat} {ρ c : Nat → Nat} {σ : Nat → Nat} (hl : ∀ d, d < E → lit (AM n ρ c) R σ d) : ∃ X, SlX R E n ρ c σ X := by
  classical
  have h : ∀ d, ∃ x, d < E → (R.fm d = 0 → x < n ∧ (ρ x : Int) = R.sj d ∧ c x = tc σ (R.tm d)) ∧ (R.fm d ≠ 0 → x = 0) := fun d => by
    by_cases q : d < E ∧ R.fm d = 0
    · have h := hl d q.1
      unfold lit at h
      rw [if_pos q.2] at h
      obtain ⟨x, h1, h2, h3⟩ := h
      exact ⟨x, fun _ => ⟨fun _ => ⟨h1, h2, h3⟩, fun z => absurd q.2 z⟩⟩
    · exact ⟨0, fun hd => ⟨fun f0 => absurd ⟨hd, f0⟩ q, fun _ => rfl⟩⟩
  exact ⟨fun d => (h d).choose, fun d hd => (h d).choose_spec hd⟩
theorem hdB_cons {R : RU} {vs : Nat → Int} {σ : Nat → Nat} (hH : SafeH R) (hcov : CovQ R R.ln vs) (hK : Cons σ vs) (ht : ∀ cc, cc < 3 → -8 ≤ R.ht cc) : tc (sg vs) R.ht = tc σ R.ht := by
  have key : ∀ cc, cc < 3 → tv (sg vs) (R.ht cc) = tv σ (R.ht cc) := fun cc hcc => by
    have h0 := hdB_cov hH hcov hcc
    rw [tv_sg, Cons_vl hK (ht cc hcc) (by omega), Int.toNat_natCast]
  unfold tc
  rw [key 0 (by omega), key 1 (by omega), key 2 (by omega)]
/-- every assignment of a rule has its head -/
def CvB (D : SH) (R : RU) (n : Nat) (ρ c : Nat → Nat) : Prop := ∀ σ, VA σ → (∀ p, p < R.ln → lit (AM n ρ c) R σ p) → ∃ k, AM n ρ c R.tg k ∧ le D R.tg (tc σ R.ht) k
theorem bgB_Q {w : World} : FrQ w (bgB w) := fun c k _ b _ e => by
  show (if c = 1 ∧ k = 30 then (0 : Int) else if c = 24 ∧ k < 8 then -9 else w c k) = w c k
  rw [if_neg (fun z => e ⟨z.1, Or.inr z.2⟩), if_neg (fun z => b z.1)]
theorem bgB_by {w : World} {d : Nat} : ByQ (bgB w) d := fun v hv => by
  rw [bgB_24, if_pos hv]; exact Or.inl rfl
theorem bgB_cons {w : World} {σ : Nat → Nat} : Cons σ (vB (bgB w)) := fun v hv h => absurd (bgB_vB hv) h
/-- a rule's walk from its begin -/
theorem walkB_n {D : SH} {lv : Int → Nat} {FF : MM} {RR : RU → Prop} {sl M r ru n : Nat} {R : RU} {w : World} {ρ c : Nat → Nat} {x3 : Int} (hRu : RuL D lv RR sl r R) (hru : ru < 19) (hM : M < 5) (hSB : SB D lv FF RR sl M w n ρ c) (hRB : RBB w ru = R) (h16 : w 16 ru = (R.ln : Int)) (h3 : x3 = 0 ∨ x3 = 1) (h30 : x3 = 0 → n ≤ 48) :
    ∃ w' x3' n' ρ' c', f_Re_round_44 (bgB w) (M : Int) (sl : Int) x3 (ru : Int) = some (Sum.inl (w', x3', ((ru + 1 : Nat) : Int))) ∧ SB D lv FF RR sl M w' n' ρ' c' ∧ EvB D lv sl M w n ρ c w' n' ρ' c' ∧ (x3' = 0 ∨ (x3' = 1 ∧ (x3 = 1 ∨ Ph D ρ c n < Ph D ρ' c' n'))) ∧ (x3' = 0 → x3 = 0 ∧ n' = n ∧ ρ' = ρ ∧ c' = c ∧ n ≤ 48 ∧ CvB D R n ρ c) := by
  obtain ⟨hD, hL, hR, hlv, htg, hr, hSL, hSH, hFew⟩ := id hRu
  have hF := bgB_Q (w := w)
  have hVb := bgB_VB hSB.2.2.2.2.2.2
  have hSB0 := SB_FrQ hF hVb hSB
  have hWf := (hL R hR).1
  have hWQ : WkQ D R R.ln := by
    have := WkQ_of (R := R) hSB.1 (by rw [hSB.2.1]; exact hWf) hSL
    rw [hSB.2.1] at this
    exact this
  obtain ⟨w', x3', n', ρ', c', er, hSB', hEv', h3', hun'⟩ := loop44 hRu hru hM _ (bgB w) n ρ c x3 _ _ hSB0 ((hF.R ru).trans hRB) (by rw [hF.cell (by omega) (by omega)]; exact h16) h3 (fun _ => Or.inl ⟨by rw [bgB_1, if_pos rfl], bgB_by, rfl, rfl⟩) h30 (Nat.le_refl _)
  refine ⟨w', x3', n', ρ', c', er, hSB', (EvB.fr hF.toR).trans hEv', h3', fun h => ?_⟩
  obtain ⟨p1, p2, p3, p4, p5, p6⟩ := hun' h
  refine ⟨p1, p2, p3, p4, p5, fun σ hσ hl => ?_⟩
  obtain ⟨X, hX⟩ := slX_ex hl
  obtain ⟨v', hE, k1, k2, k3, -⟩ := own_pathB hWQ hσ hl hX R.ln 0 (vB (bgB w)) [] (by omega) hVb.vv (fun j c' hj => absurd hj (by omega)) bgB_cons
  obtain ⟨k, hk, hle⟩ := p6 _ ((mem_en _ _ _ _ _).mpr hE)
  rw [hdB_cons hSH k3 k1 (fun cc hcc => (hWf.2.2.2.2.2.2 cc hcc).1)] at hle
  rw [htg]
  exact ⟨k, hk, hle⟩
/-- the program as the reference has it -/
def PrB (D : SH) (lv : Int → Nat) (RR : RU → Prop) (m : Nat) (w : World) : Prop :=
  w 1 14 = (m : Int) ∧ m ≤ 12 ∧ (∀ q : Nat, q < 10 → w 6 q = (lv (q : Int) : Int)) ∧ WfD D ∧ Lev D lv RR ∧
  ∀ j, j < m → w 16 j = ((RBB w j).ln : Int) ∧ (∃ r : Nat, r < 10 ∧ (RBB w j).tg = (r : Int)) ∧ (w 13 j = 0 → RR (RBB w j) ∧ SafeL (RBB w j) ∧ SafeH (RBB w j) ∧ Few (RBB w j))
theorem PrB_congr {D : SH} {lv : Int → Nat} {RR : RU → Prop} {m M : Nat} {w w' : World} (h : FrR M w w') (hP : PrB D lv RR m w) : PrB D lv RR m w' := by
  obtain ⟨a1, a2, a4, a5, a6, a7⟩ := hP
  have e : ∀ c, 2 ≤ c → c < 20 → w' c = w c := fun c h1 h2 => h.cell (by omega) (by omega)
  refine ⟨by rw [h.f (by omega) (by omega)]; exact a1, a2, by rw [e 6 (by omega) (by omega)]; exact a4, a5, a6, fun j hj => ?_⟩
  rw [RBB_congr (fun c a b => e c (by omega) (by omega)) j, e 16 (by omega) (by omega), e 13 (by omega) (by omega)]
  exact a7 j hj
def PrCB (RR : RU → Prop) (m : Nat) (w : World) : Prop := ∀ R, RR R → ∃ i, i < m ∧ w 13 i = 0 ∧ RBB w i = R
theorem PrCB_congr {RR : RU → Prop} {m M : Nat} {w w' : World} (h : FrR M w w') (hP : PrCB RR m w) : PrCB RR m w' := fun R hR => by
  obtain ⟨i, hi, h1, h2⟩ := hP R hR
  exact ⟨i, hi, by rw [h.cell (by omega) (by omega)]; exact h1, (RBB_congr (fun c a b => h.cell (by omega) (by omega)) i).trans h2⟩
theorem loop5 {D : SH} {lv : Int → Nat} {FF : MM} {RR : RU → Prop} {sl M m : Nat} (hM : M < 5) : ∀ (j k : Nat) (w : World) (n : Nat) (ρ c : Nat → Nat) (x3 : Int), k + j = m → SB D lv FF RR sl M w n ρ c → PrB D lv RR m w → (x3 = 0 ∨ x3 = 1) → (x3 = 0 → n ≤ 48) →
    ∃ w' x3' n' ρ' c', f_Re_round_5 w (M : Int) (sl : Int) x3 (k : Int) = some (w', x3') ∧ SB D lv FF RR sl M w' n' ρ' c' ∧ EvB D lv sl M w n ρ c w' n' ρ' c' ∧ (x3' = 0 ∨ (x3' = 1 ∧ (x3 = 1 ∨ Ph D ρ c n < Ph D ρ' c' n'))) ∧ (x3' = 0 → x3 = 0 ∧ n' = n ∧ ρ' = ρ ∧ c' = c ∧ n ≤ 48 ∧ ∀ i, k ≤ i → i < m → w 13 i = 0 → lv (RBB w i).tg = sl → CvB D (RBB w i) n ρ c) := by
  intro j
  induction j with
  | zero =>
    intro k w n ρ c x3 hk hSB hPr h3 h30
    refine ⟨w, x3, n, ρ, c, ?_, hSB, EvB.refl, h3.imp (fun h => h) (fun h => ⟨h, Or.inl h⟩), fun h => ⟨h, rfl, rfl, rfl, h30 h, fun i h1 h2 => absurd h2 (by omega)⟩⟩
    unfold f_Re_round_5
    refine lp_out ?_
    show f_Re_round_5B w (M : Int) (sl : Int) x3 (k : Int) = _
    unfold f_Re_round_5B
    rw [hPr.1, if_pos (by omega), gd_t h3]
  | succ j ih =>
    intro k w n ρ c x3 hk hSB hPr h3 h30
    obtain ⟨p1, p2, p3, p4, p5, p6⟩ := id hPr
    obtain ⟨hln, ⟨r, hr10, htg⟩, hru⟩ := p6 k (by omega)
    have e14 : w 14 k = (r : Int) := htg
    have one : ∃ w1 x31 n1 ρ1 c1, f_Re_round_5B w (M : Int) (sl : Int) x3 (k : Int) = some (Sum.inl (w1, x31, ((k + 1 : Nat) : Int))) ∧ SB D lv FF RR sl M w1 n1 ρ1 c1 ∧ EvB D lv sl M w n ρ c w1 n1 ρ1 c1 ∧ (x31 = 0 ∨ (x31 = 1 ∧ (x3 = 1 ∨ Ph D ρ c n < Ph D ρ1 c1 n1))) ∧ (x31 = 0 → x3 = 0 ∧ n1 = n ∧ ρ1 = ρ ∧ c1 = c ∧ n ≤ 48 ∧ (w 13 k = 0 → lv (RBB w k).tg = sl → CvB D (RBB w k) n ρ c)) := by
      unfold f_Re_round_5B
      rw [p1, if_neg (by omega), gd_t ⟨by omega, by omega⟩, Int.toNat_natCast]
      have skip : f_Re_round_125 w (M : Int) (sl : Int) x3 (k : Int) = some (Sum.inl (w, x3, ((k + 1 : Nat) : Int))) := by
        unfold f_Re_round_125
        rw [bl_s, wr_of (x := (k : Int) + 1) ⟨by omega, by omega⟩]
        rfl
      by_cases hrm : w 13 k = 0
      · rw [if_pos hrm, gd_t ⟨by omega, by omega⟩, e14, gd_t ⟨by omega, by omega⟩, Int.toNat_natCast, p3 r hr10]
        by_cases hl : lv (r : Int) = sl
        · rw [if_pos (by omega), beginB_n, bnd_s]
          obtain ⟨q1, q2, q3, q4⟩ := hru hrm
          have hRu : RuL D lv RR sl r (RBB w k) := ⟨p4, p5, q1, hl, htg, hr10, q2, q3, q4⟩
          obtain ⟨w1, x31, n1, ρ1, c1, er, h1, h2, h4, h5⟩ := walkB_n hRu (show k < 19 by omega) hM hSB rfl hln h3 h30
          exact ⟨w1, x31, n1, ρ1, c1, er, h1, h2, h4, fun h => by obtain ⟨a1, a2, a3, a4, a5, a6⟩ := h5 h; exact ⟨a1, a2, a3, a4, a5, fun _ _ => a6⟩⟩
        · rw [if_neg (by omega), skip]
          exact ⟨w, x3, n, ρ, c, rfl, hSB, EvB.refl, h3.imp (fun h => h) (fun h => ⟨h, Or.inl h⟩), fun h => ⟨h, rfl, rfl, rfl, h30 h, fun _ e => absurd (by rw [htg] at e; exact e) hl⟩⟩
      · rw [if_neg hrm, skip]
        exact ⟨w, x3, n, ρ, c, rfl, hSB, EvB.refl, h3.imp (fun h => h) (fun h => ⟨h, Or.inl h⟩), fun h => ⟨h, rfl, rfl, rfl, h30 h, fun e => absurd e hrm⟩⟩
    obtain ⟨w1, x31, n1, ρ1, c1, er, hSB1, hEv1, h31, hun1⟩ := one
    obtain ⟨w', x3', n', ρ', c', er', hSB', hEv', h3', hun'⟩ := ih (k + 1) w1 n1 ρ1 c1 x31 (by omega) hSB1 (PrB_congr hEv1.1 hPr) (h31.imp (fun h => h) (fun h => h.1)) (fun h => by have := hun1 h; omega)
    have hp1 := hEv1.Ph p4
    have hp2 := hEv'.Ph p4
    refine ⟨w', x3', n', ρ', c', ?_, hSB', hEv1.trans hEv', h3'.imp (fun h => h) (fun h => ⟨h.1, ?_⟩), fun h => ?_⟩
    · rw [← er']
      unfold f_Re_round_5
      exact lp_step (s := (w, x3, (k : Int))) er
    · rcases h.2 with q | q
      · rcases h31 with q2 | q2
        · omega
        · rcases q2.2 with q3 | q3
          · exact Or.inl q3
          · exact Or.inr (by omega)
      · exact Or.inr (by omega)
    · obtain ⟨a1, a2, a3, a4, a5, a6⟩ := hun' h
      obtain ⟨b1, b2, b3, b4, b5, b6⟩ := hun1 a1
      subst b2 b3 b4
      refine ⟨b1, a2, a3, a4, b5, fun i h1 h2 hrm hl => ?_⟩
      by_cases e : i = k
      · subst e
        exact b6 hrm hl
      · have eR : RBB w1 i = RBB w i := RBB_congr (fun c a b => hEv1.1.cell (by omega) (by omega)) i
        have := a6 i (by omega) h2 (by rw [hEv1.1.cell (by omega) (by omega)]; exact hrm) (by rw [eR]; exact hl)
        rw [eR] at this
        exact this
theorem round_n {D : SH} {lv : Int → Nat} {FF : MM} {RR : RU → Prop} {sl M m n : Nat} {w : World} {ρ c : Nat → Nat} (hM : M < 5) (hSB : SB D lv FF RR sl M w n ρ c) (hPr : PrB D lv RR m w) (hPc : PrCB RR m w) (hn : n ≤ 48) :
    ∃ w' x3' n' ρ' c', f_Re_round w (M : Int) (sl : Int) = some (w', x3') ∧ SB D lv FF RR sl M w' n' ρ' c' ∧ EvB D lv sl M w n ρ c w' n' ρ' c' ∧ (x3' = 0 ∨ (x3' = 1 ∧ Ph D ρ c n < Ph D ρ' c' n')) ∧ (x3' = 0 → n' = n ∧ ρ' = ρ ∧ c' = c ∧ CvA D lv RR sl n ρ c) := by
  obtain ⟨w', x3', n', ρ', c', er, hSB', hEv', h3', hun'⟩ := loop5 (M := M) (m := m) hM m 0 w n ρ c 0 (by omega) hSB hPr (Or.inl rfl) (fun _ => hn)
  refine ⟨w', x3', n', ρ', c', er, hSB', hEv', h3'.imp (fun h => h) (fun h => ⟨h.1, h.2.resolve_left (by decide)⟩), fun h => ?_⟩
  obtain ⟨a1, a2, a3, a4, a5, a6⟩ := hun' h
  refine ⟨a2, a3, a4, fun R hR hs σ X hA => ?_⟩
  obtain ⟨i, hi, h1, h2⟩ := hPc R hR
  have := a6 i (by omega) hi h1 (by rw [h2]; exact hs)
  rw [h2] at this
  exact this σ hA.1 hA.2.1
