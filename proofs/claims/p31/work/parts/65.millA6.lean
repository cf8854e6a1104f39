/-! THE CLASS'S MILL: a sweep -/
/-- what a stretch of a sweep does -/
def Rs (D : SH) (lv : Int → Nat) (FF : MM) (RR : RU → Prop) (sl t : Nat) (rd : Int) (w : World) (N : Nat) (ρ c : Nat → Nat) (L : Nat → List Nat) (x5 : Int) (w' : World) (N' : Nat) (ρ' c' : Nat → Nat) (L' : Nat → List Nat) (x5' : Int) : Prop :=
  SI D lv FF RR sl t w' N' ρ' c' L' ∧ Evo D lv sl t rd w N ρ c w' N' ρ' c' ∧ (x5' = 0 ∨ (x5' = 1 ∧ (x5 = 1 ∨ Ph D ρ c N < Ph D ρ' c' N'))) ∧ (x5' = 0 → x5 = 0 ∧ N' = N ∧ ρ' = ρ ∧ c' = c ∧ L' = L ∧ w' (t + 4) = w (t + 4)) ∧ (w' t 2 ≠ 0 → w' t 2 = 1 ∧ OvB D lv FF RR sl (AM N' ρ' c')) ∧ (w t 2 ≠ 0 → w' t 2 ≠ 0)
theorem Rs.refl {D : SH} {lv : Int → Nat} {FF : MM} {RR : RU → Prop} {sl t N : Nat} {rd x5 : Int} {w : World} {ρ c : Nat → Nat} {L : Nat → List Nat} (h : SI D lv FF RR sl t w N ρ c L) (h5 : x5 = 0 ∨ x5 = 1) (ho : w t 2 ≠ 0 → w t 2 = 1 ∧ OvB D lv FF RR sl (AM N ρ c)) : Rs D lv FF RR sl t rd w N ρ c L x5 w N ρ c L x5 :=
  ⟨h, Evo.refl, h5.imp (fun h => h) (fun h => ⟨h, Or.inl h⟩), fun h => ⟨h, rfl, rfl, rfl, rfl, rfl⟩, ho, fun h => h⟩
theorem Rs.five {D : SH} {lv : Int → Nat} {FF : MM} {RR : RU → Prop} {sl t N N' : Nat} {rd x5 x5' : Int} {w w' : World} {ρ c ρ' c' : Nat → Nat} {L L' : Nat → List Nat} (h : Rs D lv FF RR sl t rd w N ρ c L x5 w' N' ρ' c' L' x5') : x5' = 0 ∨ x5' = 1 := h.2.2.1.imp (fun h => h) (fun h => h.1)
theorem Rs.trans {D : SH} {lv : Int → Nat} {FF : MM} {RR : RU → Prop} {sl t N N' N'' : Nat} {rd x5 x5' x5'' : Int} {w w' w'' : World} {ρ c ρ' c' ρ'' c'' : Nat → Nat} {L L' L'' : Nat → List Nat} (h : Rs D lv FF RR sl t rd w N ρ c L x5 w' N' ρ' c' L' x5') (hD : WfD D) (h' : Rs D lv FF RR sl t rd w' N' ρ' c' L' x5' w'' N'' ρ'' c'' L'' x5'') : Rs D lv FF RR sl t rd w N ρ c L x5 w'' N'' ρ'' c'' L'' x5'' := by
  obtain ⟨a1, a2, a3, a4, a5, a6⟩ := h
  obtain ⟨b1, b2, b3, b4, b5, b6⟩ := h'
  have hp1 := a2.Ph hD
  have hp2 := b2.Ph hD
  refine ⟨b1, a2.trans b2, b3.imp (fun h => h) (fun h => ⟨h.1, ?_⟩), fun e => ?_, b5, fun e => b6 (a6 e)⟩
  · rcases h.2 with q | q
    · rcases a3 with q2 | q2
      · rw [q2] at q; cases q
      · rcases q2.2 with q3 | q3
        · exact Or.inl q3
        · exact Or.inr (by omega)
    · exact Or.inr (by omega)
  have p := b4 e
  have q := a4 p.1
  exact ⟨q.1, p.2.1.trans q.2.1, p.2.2.1.trans q.2.2.1, p.2.2.2.1.trans q.2.2.2.1, p.2.2.2.2.1.trans q.2.2.2.2.1, p.2.2.2.2.2.trans q.2.2.2.2.2⟩
/-- every assignment by slots that stay as they are has its head, ever after -/
def CvP (D : SH) (lv : Int → Nat) (sl t : Nat) (rd p lr : Int) (R : RU) (w : World) (N : Nat) (ρ c : Nat → Nat) : Prop :=
  ∀ we Ne ρe ce, Evo D lv sl t rd w N ρ c we Ne ρe ce → ∀ σ X, Asg Ne ρe ce R σ X → (∀ q, q < R.ln → R.fm q = 0 → timely p lr (we (t + 4)) q (X q) = true ∧ we (t + 4) (X q) ≠ rd) → ∃ k, AM Ne ρe ce R.tg k ∧ le D R.tg (tc σ R.ht) k
theorem CvP.evo {D : SH} {lv : Int → Nat} {sl t N N' : Nat} {rd p lr : Int} {R : RU} {w w' : World} {ρ c ρ' c' : Nat → Nat} (h : CvP D lv sl t rd p lr R w N ρ c) (he : Evo D lv sl t rd w N ρ c w' N' ρ' c') : CvP D lv sl t rd p lr R w' N' ρ' c' := fun we Ne ρe ce h' => h we Ne ρe ce (he.trans h')
/-- slots that stay as they are were so before -/
theorem Asg_back {D : SH} {lv : Int → Nat} {RR : RU → Prop} {sl t N N' : Nat} {rd : Int} {R : RU} {w w' : World} {ρ c ρ' c' : Nat → Nat} {σ X : Nat → Nat} (hL : Lev D lv RR) (hR : RR R) (hs : lv R.tg = sl) (he : Evo D lv sl t rd w N ρ c w' N' ρ' c') (h : Asg N' ρ' c' R σ X) (hX : ∀ q, q < R.ln → R.fm q = 0 → w' (t + 4) (X q) ≠ rd) :
    Asg N ρ c R σ X ∧ ∀ q, q < R.ln → R.fm q = 0 → w (t + 4) (X q) = w' (t + 4) (X q) := by
  obtain ⟨h1, h2, h3⟩ := h
  obtain ⟨e1, e2, e3, e4, e5, e6, e7⟩ := he
  have key : ∀ q, q < R.ln → R.fm q = 0 → (X q < N ∧ (ρ (X q) : Int) = R.sj q ∧ c (X q) = tc σ (R.tm q)) ∧ w (t + 4) (X q) = w' (t + 4) (X q) := fun q hq f0 => by
    obtain ⟨a1, a2, a3⟩ := h3 q hq f0
    have hne := hX q hq f0
    have hN : X q < N := by
      refine Classical.byContradiction fun hn => hne (e6 _ (by omega) a1)
    rcases e5 (X q) with z | ⟨z, z2⟩
    · exact absurd z hne
    · exact ⟨⟨hN, by rw [← (e3 _ hN).1]; exact a2, by rw [← z2 hN]; exact a3⟩, z.symm⟩
  refine ⟨⟨h1, fun q hq => ?_, fun q hq f0 => (key q hq f0).1⟩, fun q hq f0 => (key q hq f0).2⟩
  by_cases f0 : R.fm q = 0
  · have := (key q hq f0).1
    unfold lit
    rw [if_pos f0]
    exact ⟨X q, this.1, this.2.1, this.2.2⟩
  · refine (lit_congr (fun hf => ?_)).mp (h2 q hq)
    have hfm := (hL R hR).1.2.1 q hq
    have := ((hL R hR).2 q hq).2 (by omega)
    exact e4 _ _ (by omega)
theorem walk_cv {D : SH} {lv : Int → Nat} {FF : MM} {RR : RU → Prop} {sl t b r N : Nat} {R : RU} {w : World} {ρ c : Nat → Nat} {L : Nat → List Nat} {p lr rd x2 x4 x5 x6 x8 x9 x10 : Int} (hkb : kdA b = 1) (hkt : kdA t = 6) (hSI : SI D lv FF RR sl t w N ρ c L) (hRu : RuL D lv RR sl r R) (hRB : RB w b = R) (hp : p = -1 ∨ ∃ pn : Nat, pn < R.ln ∧ p = (pn : Int) ∧ R.fm pn = 0) (ho : w t 2 = 0) (h5 : x5 = 0 ∨ x5 = 1) :
    ∃ w' x5' N' ρ' c' L', f_Mi_sweep_154 (ld (bg w b t R.ln) p lr) t x2 rd x4 x5 x6 b x8 x9 x10 0 = some (Sum.inl (w', x5', wr (x10 + 1))) ∧ Rs D lv FF RR sl t rd w N ρ c L x5 w' N' ρ' c' L' x5' ∧ (w' t 2 = 0 → CvP D lv sl t rd p lr R w' N' ρ' c') := by
  obtain ⟨w', x5', N', ρ', c', L', er, hSI', hEv', h5', hun', hcp', hov'⟩ := walk_n (FF := FF) (lr := lr) (rd := rd) (x2 := x2) (x4 := x4) (x6 := x6) (x8 := x8) (x9 := x9) (x10 := x10) hkb hkt hSI hRu hRB hp ho h5
  obtain ⟨hD, hL, hR, hlv, htg, hr, hSL, hSH, hFew⟩ := hRu
  refine ⟨w', x5', N', ρ', c', L', er, ⟨hSI', hEv', h5', hun', hov', fun h => absurd ho h⟩, fun hf we Ne ρe ce he σ X hA hX => ?_⟩
  obtain ⟨k1, k2⟩ := Asg_back hL hR (by rw [htg]; exact hlv) (hEv'.trans he) hA (fun q hq f0 => (hX q hq f0).2)
  have hmid := (Asg_back hL hR (by rw [htg]; exact hlv) he hA (fun q hq f0 => (hX q hq f0).2)).2
  have hX' : ∀ q, q < R.ln → R.fm q = 0 → timely p lr (w (t + 4)) q (X q) = true ∧ w' (t + 4) (X q) ≠ rd := fun q hq f0 => by
    have ht := (hX q hq f0).1
    have e := k2 q hq f0
    refine ⟨?_, by rw [hmid q hq f0]; exact (hX q hq f0).2⟩
    unfold timely at ht ⊢
    rw [e]
    exact ht
  obtain ⟨k, hk, hle⟩ := hcp' hf σ X k1 hX'
  obtain ⟨k', hk', hle'⟩ := he.cov hk
  rw [htg]
  exact ⟨k', hk', le_trans' hle hle'⟩
theorem sw217 {w : World} {t b : Nat} {x2 x3 x4 x5 x6 x8 x9 x10 : Int} : f_Mi_sweep_217 w t x2 x3 x4 x5 x6 b x8 x9 x10 = some (Sum.inl (w, x5, wr (x10 + 1))) := by
  unfold f_Mi_sweep_217
  rw [bl_s]
theorem sw223 {w : World} {t : Nat} {x2 x3 x4 x5 x6 : Int} : f_Mi_sweep_223 w t x2 x3 x4 x5 x6 = some (Sum.inl (w, x5, wr (x6 + 1))) := by
  unfold f_Mi_sweep_223
  rw [bl_s]
theorem levelOf_n {w : World} {r : Nat} (h : r < 10) : f_Pr_levelOf w (r : Int) = some (w 21 r) := by
  unfold f_Pr_levelOf
  rw [if_neg (by omega), if_neg (by omega), gd_t ⟨by omega, by omega⟩, Int.toNat_natCast]
/-- a rule's places, one by one -/
theorem sw79_lead {D : SH} {lv : Int → Nat} {FF : MM} {RR : RU → Prop} {sl t b r : Nat} {R : RU} {rd x6 : Int} (hkb : kdA b = 1) (hkt : kdA t = 6) (hRu : RuL D lv RR sl r R) (hrd : 1 ≤ rd ∧ rd ≤ 1000000) : ∀ (j k : Nat) (w : World) (N : Nat) (ρ c : Nat → Nat) (L : Nat → List Nat) (x5 : Int), k + j = R.ln → SI D lv FF RR sl t w N ρ c L → RB w b = R → w b 0 = (R.ln : Int) → (∀ q : Nat, q < 10 → w 21 q = (lv (q : Int) : Int)) → (w t 2 ≠ 0 → w t 2 = 1 ∧ OvB D lv FF RR sl (AM N ρ c)) → (x5 = 0 ∨ x5 = 1) →
    ∃ w' x5' N' ρ' c' L', f_Mi_sweep_79 w t (sl : Int) rd 0 x5 x6 b 1 (R.ln : Int) (k : Int) = some (Sum.inl (w', x5', wr (x6 + 1))) ∧ Rs D lv FF RR sl t rd w N ρ c L x5 w' N' ρ' c' L' x5' ∧ (w' t 2 = 0 → ∀ q, k ≤ q → q < R.ln → R.fm q = 0 → lv (R.sj q) = sl → CvP D lv sl t rd (q : Int) (rd - 1) R w' N' ρ' c') := by
  intro j
  have hWf := (hRu.2.1 R hRu.2.2.1).1
  have hb1 := kd1 hkb
  have h6 := kd6 hkt
  induction j with
  | zero =>
    intro k w N ρ c L x5 hk hSI hRB hb0 h21 ho h5
    refine ⟨w, x5, N, ρ, c, L, ?_, Rs.refl hSI h5 ho, fun _ q h1 h2 => absurd h2 (by omega)⟩
    unfold f_Mi_sweep_79
    refine lp_out ?_
    show f_Mi_sweep_79B w t (sl : Int) rd 0 x5 x6 b 1 (R.ln : Int) (k : Int) = _
    unfold f_Mi_sweep_79B
    rw [if_pos (by omega), sw223, bnd_s]
  | succ j ih =>
    intro k w N ρ c L x5 hk hSI hRB hb0 h21 ho h5
    have hk5 : k < 5 := by have := hWf.1; omega
    by_cases ho0 : w t 2 = 0
    · have e1 : w (b + 1) k = R.fm k := by rw [← hRB]; rfl
      have e2 : w (b + 2) k = R.sj k := by rw [← hRB]; rfl
      -- whether the place leads
      have hlead : f_Mi_isLead w b (k : Int) (sl : Int) = some (if R.fm k = 0 ∧ lv (R.sj k) = sl then 1 else 0) := by
        unfold f_Mi_isLead
        rw [formOf_n hk5, bnd_s, e1]
        by_cases f0 : R.fm k = 0
        · rw [if_pos f0, subjectOf_n hk5, bnd_s, e2]
          have hc1 := (hWf.2.2.1 k (by omega) (by omega)).1
          rw [← hSI.2.1] at hc1
          obtain ⟨n, hn, hn10, -⟩ := SA_co_in hc1
          rw [hn, levelOf_n hn10, bnd_s, h21 n hn10]
          by_cases e : lv (n : Int) = sl
          · rw [if_pos (by omega), if_pos ⟨f0, e⟩]
          · rw [if_neg (by omega), if_neg (fun q => e q.2)]
        · rw [if_neg f0, if_neg (fun q => f0 q.1)]
      have hcast : ((k + 1 : Nat) : Int) = (k : Int) + 1 := by omega
      by_cases hq : R.fm k = 0 ∧ lv (R.sj k) = sl
      · rw [if_pos hq] at hlead
        obtain ⟨w1, x51, N1, ρ1, c1, L1, er, hRs, hcv⟩ := walk_cv (FF := FF) (p := (k : Int)) (lr := rd - 1) (rd := rd) (x2 := (sl : Int)) (x4 := 0) (x6 := x6) (x8 := 1) (x9 := (R.ln : Int)) (x10 := (k : Int)) hkb hkt hSI hRu hRB (Or.inr ⟨k, by omega, rfl, hq.1⟩) ho0 h5
        have hlow : ∀ c0, c0 < 98 → w1 c0 = w c0 := fun c0 h => hRs.2.1.1 c0 (by omega) (by omega)
        have hRB1 : RB w1 b = R := (RB_congr (hlow b (by omega)) (hlow _ (by omega)) (hlow _ (by omega)) (hlow _ (by omega))).trans hRB
        obtain ⟨w', x5', N', ρ', c', L', er', hRs', hcv'⟩ := ih (k + 1) w1 N1 ρ1 c1 L1 x51 (by omega) hRs.1 hRB1 (by rw [hlow b (by omega)]; exact hb0) (by rw [hlow 21 (by omega)]; exact h21) hRs.2.2.2.2.1 hRs.five
        refine ⟨w', x5', N', ρ', c', L', ?_, hRs.trans hRu.1 hRs', fun hf q h1 h2 h3 h4 => ?_⟩
        · rw [← er']
          unfold f_Mi_sweep_79
          refine lp_step (s := (w, x5, (k : Int))) ?_
          show f_Mi_sweep_79B w t (sl : Int) rd 0 x5 x6 b 1 (R.ln : Int) (k : Int) = _
          unfold f_Mi_sweep_79B f_Mi_sweep_115 f_Mi_sweep_145
          rw [if_neg (by omega), if_neg (by decide), if_pos ho0, if_pos rfl, hlead, bnd_s, if_neg (by decide), hb0, begin_n, bnd_s, if_pos rfl, leadBy_n, bnd_s, wr_of (x := rd - 1) ⟨by omega, by omega⟩, er, wr_of (x := (k : Int) + 1) ⟨by omega, by omega⟩, hcast]
        · by_cases e : q = k
          · subst e
            by_cases hf1 : w1 t 2 = 0
            · exact (hcv hf1).evo hRs'.2.1
            · exact absurd hf (hRs'.2.2.2.2.2 hf1)
          · exact hcv' hf q (by omega) h2 h3 h4
      · rw [if_neg hq] at hlead
        obtain ⟨w', x5', N', ρ', c', L', er', hRs', hcv'⟩ := ih (k + 1) w N ρ c L x5 (by omega) hSI hRB hb0 h21 ho h5
        refine ⟨w', x5', N', ρ', c', L', ?_, hRs', fun hf q h1 h2 h3 h4 => ?_⟩
        · rw [← er']
          unfold f_Mi_sweep_79
          refine lp_step (s := (w, x5, (k : Int))) ?_
          show f_Mi_sweep_79B w t (sl : Int) rd 0 x5 x6 b 1 (R.ln : Int) (k : Int) = _
          unfold f_Mi_sweep_79B
          rw [if_neg (by omega), if_neg (by decide), if_pos ho0, if_pos rfl, hlead, bnd_s, if_pos rfl, sw217, wr_of (x := (k : Int) + 1) ⟨by omega, by omega⟩, hcast]
        · by_cases e : q = k
          · subst e
            exact absurd ⟨h3, h4⟩ hq
          · exact hcv' hf q (by omega) h2 h3 h4
    · refine ⟨w, x5, N, ρ, c, L, ?_, Rs.refl hSI h5 ho, fun hf => absurd hf ho0⟩
      unfold f_Mi_sweep_79
      refine lp_out ?_
      show f_Mi_sweep_79B w t (sl : Int) rd 0 x5 x6 b 1 (R.ln : Int) (k : Int) = _
      unfold f_Mi_sweep_79B
      rw [if_neg (by omega), if_neg (by decide), if_neg ho0, sw223, bnd_s]
