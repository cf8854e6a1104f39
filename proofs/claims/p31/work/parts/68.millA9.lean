/-! THE CLASS'S MILL: the rounds of a stratum -/
/-- every assignment has its head -/
def CvA (D : SH) (lv : Int → Nat) (RR : RU → Prop) (sl N : Nat) (ρ c : Nat → Nat) : Prop :=
  ∀ R, RR R → lv R.tg = sl → ∀ σ X, Asg N ρ c R σ X → ∃ k, AM N ρ c R.tg k ∧ le D R.tg (tc σ R.ht) k
def EvW (D : SH) (lv : Int → Nat) (sl t : Nat) (w : World) (N : Nat) (ρ c : Nat → Nat) (w' : World) (N' : Nat) (ρ' c' : Nat → Nat) : Prop :=
  (∀ c0, ¬ (t ≤ c0 ∧ c0 ≤ t + 4) → ¬ (103 ≤ c0 ∧ c0 ≤ 106) → w' c0 = w c0) ∧ N ≤ N' ∧ (∀ x, x < N → ρ' x = ρ x ∧ le D (ρ x) (c x) (c' x)) ∧ (∀ q k, lv q ≠ sl → (AM N' ρ' c' q k ↔ AM N ρ c q k)) ∧ ∀ x, x < N → lv (ρ x) ≠ sl → w' (t + 4) x = w (t + 4) x
theorem Evo.w {D : SH} {lv : Int → Nat} {sl t N N' : Nat} {rd : Int} {w w' : World} {ρ c ρ' c' : Nat → Nat} (h : Evo D lv sl t rd w N ρ c w' N' ρ' c') : EvW D lv sl t w N ρ c w' N' ρ' c' := ⟨h.1, h.2.1, h.2.2.1, h.2.2.2.1, h.2.2.2.2.2.2⟩
theorem EvW.refl {D : SH} {lv : Int → Nat} {sl t N : Nat} {w : World} {ρ c : Nat → Nat} : EvW D lv sl t w N ρ c w N ρ c := (Evo.refl (rd := 0)).w
theorem EvW.trans {D : SH} {lv : Int → Nat} {sl t N N' N'' : Nat} {w w' w'' : World} {ρ c ρ' c' ρ'' c'' : Nat → Nat} (h : EvW D lv sl t w N ρ c w' N' ρ' c') (h' : EvW D lv sl t w' N' ρ' c' w'' N'' ρ'' c'') : EvW D lv sl t w N ρ c w'' N'' ρ'' c'' := by
  obtain ⟨a1, a2, a3, a4, a7⟩ := h
  obtain ⟨b1, b2, b3, b4, b7⟩ := h'
  refine ⟨fun c0 h1 h2 => (b1 c0 h1 h2).trans (a1 c0 h1 h2), by omega, fun x hx => ?_, fun q k hq => (b4 q k hq).trans (a4 q k hq), fun x hx hq => (b7 x (by omega) (by rw [(a3 x hx).1]; exact hq)).trans (a7 x hx hq)⟩
  have p := a3 x hx
  have q := b3 x (by omega)
  rw [p.1] at q
  exact ⟨q.1, le_trans' p.2 q.2⟩
theorem EvW.cov {D : SH} {lv : Int → Nat} {sl t N N' : Nat} {w w' : World} {ρ c ρ' c' : Nat → Nat} (h : EvW D lv sl t w N ρ c w' N' ρ' c') {r : Int} {k : Nat} (hk : AM N ρ c r k) : ∃ k', AM N' ρ' c' r k' ∧ le D r k k' := by
  obtain ⟨x, hx, rfl, rfl⟩ := hk
  have := h.2.2.1 x hx
  exact ⟨c' x, ⟨x, Nat.lt_of_lt_of_le hx h.2.1, by rw [this.1], rfl⟩, this.2⟩
/-- a new slot is of the stratum -/
theorem new_lv {D : SH} {lv : Int → Nat} {sl t N N' : Nat} {w w' : World} {ρ c ρ' c' : Nat → Nat} {L' : Nat → List Nat} (h : EvW D lv sl t w N ρ c w' N' ρ' c') (hA : AMod w' t N' ρ' c' L') (hD : SA w' = D) {x : Nat} (h1 : N ≤ x) (h2 : x < N') : lv (ρ' x) = sl := by
  refine Classical.byContradiction fun hq => ?_
  obtain ⟨y, hy, hρ, hc⟩ := (h.2.2.2.1 _ _ hq).mp ⟨x, h2, rfl, rfl⟩
  have h3 := h.2.2.1 y hy
  have h4 : ρ' x = ρ' y := by rw [h3.1]; omega
  have h5 := AMod_key hA (show y < N' by omega) h2 h4 (by omega)
  have h6 := h3.2.1
  rw [hD, ← hc, h3.1] at h5
  exact h5 h6.symm
/-- a stratum that is being made -/
def LvS (D : SH) (lv : Int → Nat) (FF : MM) (RR : RU → Prop) (sl t m : Nat) (r0 rd : Int) (w : World) (N : Nat) (ρ c : Nat → Nat) (L : Nat → List Nat) : Prop :=
  SI D lv FF RR sl t w N ρ c L ∧ PrW D lv RR m w ∧ PrC RR m w ∧ (w t 2 ≠ 0 → w t 2 = 1 ∧ OvB D lv FF RR sl (AM N ρ c)) ∧ (∀ x, x < N → w (t + 4) x ≤ rd) ∧ (∀ x, x < N → lv (ρ x) < sl → w (t + 4) x < r0)
theorem LvS_sweep {D : SH} {lv : Int → Nat} {FF : MM} {RR : RU → Prop} {sl t m N : Nat} {r0 rd x4 : Int} {w : World} {ρ c : Nat → Nat} {L : Nat → List Nat} (hkt : kdA t = 6) (hrd : 0 ≤ rd ∧ rd < 1000000) (h : LvS D lv FF RR sl t m r0 rd w N ρ c L) (hr0 : x4 = 0 → r0 ≤ rd) (hcv : x4 = 0 → w t 2 = 0 → CvL D lv RR sl t rd w N ρ c) :
    ∃ w' x5' N' ρ' c' L', f_Mi_sweep w t (sl : Int) (rd + 1) x4 = some (w', x5') ∧ LvS D lv FF RR sl t m r0 (rd + 1) w' N' ρ' c' L' ∧ EvW D lv sl t w N ρ c w' N' ρ' c' ∧ (x5' = 0 ∨ (x5' = 1 ∧ Ph D ρ c N < Ph D ρ' c' N')) ∧ Ph D ρ c N ≤ Ph D ρ' c' N' ∧ (w' t 2 = 0 → CvL D lv RR sl t (rd + 1) w' N' ρ' c' ∧ (x5' = 0 → CvA D lv RR sl N' ρ' c')) ∧ (w t 2 ≠ 0 → w' t 2 ≠ 0) := by
  obtain ⟨hSI, hPr, hPc, ho, hr1, hlo⟩ := h
  have hD := hPr.2.2.2.2.1
  obtain ⟨w', x5', N', ρ', c', L', er, hRs, hcv'⟩ := sweep_n (rd := rd + 1) (x4 := x4) hkt (by omega) hSI hPr hPc ho (fun x hx => by have := hr1 x hx; omega) (fun e x hx hl => by have := hlo x hx hl; have := hr0 e; omega) (fun e he => by have := hcv e he; rwa [show rd + 1 - 1 = rd by omega])
  have hlow := Evo_low hkt hRs.2.1
  have hEw := hRs.2.1.w
  refine ⟨w', x5', N', ρ', c', L', er, ⟨hRs.1, PrW_congr hlow hPr, PrC_congr hPr.2.1 hlow hPc, hRs.2.2.2.2.1, fun x hx => ?_, fun x hx hl => ?_⟩, hEw, ?_, hRs.2.1.Ph hD, fun hf => ⟨hcv' hf, fun h0 R hR hs σ X hA => ?_⟩, hRs.2.2.2.2.2⟩
  · by_cases q : x < N
    · rcases hRs.2.1.2.2.2.2.1 x with z | z
      · omega
      · rw [z.1]; have := hr1 x q; omega
    · rw [hRs.2.1.2.2.2.2.2.1 x (by omega) hx]; exact Int.le_refl _
  · by_cases q : x < N
    · rw [(hEw.2.2.1 x q).1] at hl
      rw [hEw.2.2.2.2 x q (by omega)]
      exact hlo x q hl
    · have := new_lv hEw hRs.1.2.2.1 hRs.1.2.1 (show N ≤ x by omega) hx
      omega
  · rcases hRs.2.2.1 with z | ⟨z, z2⟩
    · exact Or.inl z
    · rcases z2 with z2 | z2
      · omega
      · exact Or.inr ⟨z, z2⟩
  · have hu := hRs.2.2.2.1 h0
    refine hcv' hf R hR hs σ X hA (fun q hq f0 => ?_)
    have h1 := (hA.2.2 q hq f0).1
    have h2 := hr1 (X q) (by omega)
    rw [hu.2.2.2.2.2]
    omega
theorem exit56 {w : World} {t i : Nat} {x2 x3 x4 x5 x6 x7 : Int} (hi : i < 10000) (h : x7 = 0 ∨ w t 2 ≠ 0) : f_Mi_build_56 w t x2 x3 x4 x5 x6 x7 (i : Int) = some (Sum.inl (w, x5, wr (x6 + 1))) := by
  unfold f_Mi_build_56
  refine lp_out ?_
  show f_Mi_build_56B w t x2 x3 x4 x5 x6 x7 (i : Int) = _
  unfold f_Mi_build_56B f_Mi_build_98
  rw [if_neg (by omega)]
  by_cases h7 : x7 = 0
  · rw [if_pos h7, bl_s, bnd_s]
  · rw [if_neg h7, if_neg (h.resolve_left h7), bl_s, bnd_s]
theorem loop56 {D : SH} {lv : Int → Nat} {FF : MM} {RR : RU → Prop} {sl t m : Nat} {r0 x2 x3 x4 : Int} (hkt : kdA t = 6) : ∀ (n : Nat) (w : World) (N : Nat) (ρ c : Nat → Nat) (L : Nat → List Nat) (rd : Int) (i : Nat) (ch : Int), LvS D lv FF RR sl t m r0 rd w N ρ c L → 0 ≤ r0 → r0 ≤ rd → rd + n < 900000 → (w t 2 = 0 → CvL D lv RR sl t rd w N ρ c ∧ (ch = 0 → CvA D lv RR sl N ρ c)) → 6144 ≤ Ph D ρ c N + n → i + n < 9999 →
    ∃ w' rd' N' ρ' c' L', f_Mi_build_56 w t x2 x3 x4 rd (sl : Int) ch (i : Int) = some (Sum.inl (w', rd', wr ((sl : Int) + 1))) ∧ LvS D lv FF RR sl t m r0 rd' w' N' ρ' c' L' ∧ EvW D lv sl t w N ρ c w' N' ρ' c' ∧ rd ≤ rd' ∧ rd' ≤ rd + n + 1 ∧ (w' t 2 = 0 → CvA D lv RR sl N' ρ' c') ∧ (w t 2 ≠ 0 → w' t 2 ≠ 0) := by
  intro n
  induction n with
  | zero =>
    intro w N ρ c L rd i ch h hr0 hr0d hrd hcv hph hi
    by_cases hx : ch = 0 ∨ w t 2 ≠ 0
    · refine ⟨w, rd, N, ρ, c, L, exit56 (by omega) hx, h, EvW.refl, Int.le_refl _, by omega, fun hf => ?_, fun h => h⟩
      exact (hcv hf).2 (hx.resolve_right (fun q => q hf))
    · have hch : ch ≠ 0 := fun e => hx (Or.inl e)
      have ho : w t 2 = 0 := Classical.byContradiction fun e => hx (Or.inr e)
      obtain ⟨w1, x51, N1, ρ1, c1, L1, er, h1, hE1, h51, hp1, hc1, -⟩ := LvS_sweep (x4 := x4) hkt (by omega) h (fun _ => hr0d) (fun _ he => (hcv he).1)
      have hN1 := h1.1.2.2.1.2.1
      have hP1 := Ph_128 (D := D) (ρ := ρ1) (c := c1) N1
      have e0 : x51 = 0 := by
        rcases h51 with z | z
        · exact z
        · omega
      refine ⟨w1, rd + 1, N1, ρ1, c1, L1, ?_, h1, hE1, by omega, by omega, fun hf => (hc1 hf).2 e0, fun h => absurd ho h⟩
      have e : f_Mi_build_56 w t x2 x3 x4 rd (sl : Int) ch (i : Int) = f_Mi_build_56 w1 t x2 x3 x4 (rd + 1) (sl : Int) x51 ((i + 1 : Nat) : Int) := by
        unfold f_Mi_build_56
        refine lp_step (s := (w, rd, ch, (i : Int))) ?_
        show f_Mi_build_56B w t x2 x3 x4 rd (sl : Int) ch (i : Int) = _
        unfold f_Mi_build_56B
        rw [if_neg (by omega), if_neg hch, if_pos ho, bl_s, wr_of (x := rd + 1) ⟨by omega, by omega⟩, er, bnd_s, bl_s, wr_of (x := (i : Int) + 1) ⟨by omega, by omega⟩]
        rfl
      rw [e]
      exact exit56 (by omega) (Or.inl e0)
  | succ n ih =>
    intro w N ρ c L rd i ch h hr0 hr0d hrd hcv hph hi
    by_cases hx : ch = 0 ∨ w t 2 ≠ 0
    · refine ⟨w, rd, N, ρ, c, L, exit56 (by omega) hx, h, EvW.refl, Int.le_refl _, by omega, fun hf => ?_, fun h => h⟩
      exact (hcv hf).2 (hx.resolve_right (fun q => q hf))
    · have hch : ch ≠ 0 := fun e => hx (Or.inl e)
      have ho : w t 2 = 0 := Classical.byContradiction fun e => hx (Or.inr e)
      obtain ⟨w1, x51, N1, ρ1, c1, L1, er, h1, hE1, h51, hp1, hc1, -⟩ := LvS_sweep (x4 := x4) hkt (by omega) h (fun _ => hr0d) (fun _ he => (hcv he).1)
      have e : f_Mi_build_56 w t x2 x3 x4 rd (sl : Int) ch (i : Int) = f_Mi_build_56 w1 t x2 x3 x4 (rd + 1) (sl : Int) x51 ((i + 1 : Nat) : Int) := by
        unfold f_Mi_build_56
        refine lp_step (s := (w, rd, ch, (i : Int))) ?_
        show f_Mi_build_56B w t x2 x3 x4 rd (sl : Int) ch (i : Int) = _
        unfold f_Mi_build_56B
        rw [if_neg (by omega), if_neg hch, if_pos ho, bl_s, wr_of (x := rd + 1) ⟨by omega, by omega⟩, er, bnd_s, bl_s, wr_of (x := (i : Int) + 1) ⟨by omega, by omega⟩]
        rfl
      rw [e]
      rcases h51 with z | z
      · exact ⟨w1, rd + 1, N1, ρ1, c1, L1, exit56 (by omega) (Or.inl z), h1, hE1, by omega, by omega, fun hf => (hc1 hf).2 z, fun h => absurd ho h⟩
      · obtain ⟨w', rd', N', ρ', c', L', er', h', hE', hr1, hr2, hcv', -⟩ := ih w1 N1 ρ1 c1 L1 (rd + 1) (i + 1) x51 h1 hr0 (by omega) (by omega) hc1 (by omega) (by omega)
        exact ⟨w', rd', N', ρ', c', L', er', h', hE1.trans hE', by omega, by omega, hcv', fun h => absurd ho h⟩
