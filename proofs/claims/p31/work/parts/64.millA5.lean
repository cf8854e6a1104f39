/-! THE CLASS'S MILL: a rule's walk as a whole -/
def Fr3 (w w' : World) : Prop := ∀ c, ¬ (103 ≤ c ∧ c ≤ 106) → w' c = w c
theorem SI_Fr3 {D : SH} {lv : Int → Nat} {FF : MM} {RR : RU → Prop} {sl t N : Nat} {w w' : World} {ρ c : Nat → Nat} {L : Nat → List Nat} (h : Fr3 w w') (hkt : kdA t = 6) (hV : VV (w' 104)) (hS : SI D lv FF RR sl t w N ρ c L) : SI D lv FF RR sl t w' N ρ c L := by
  have h6 := kd6 hkt
  obtain ⟨a1, a2, a3, a4, a5, a6, a7⟩ := hS
  refine ⟨WfS_congr (fun c a b k => by rw [h c (by omega)]) a1, (SA_congr (fun c a b k => by rw [h c (by omega)])).trans a2, AMod_congr (fun c a b => h c (by omega)) (fun c a b => h c (by omega)) a3, fun s hs => ?_, hV, a6, a7⟩
  unfold Vc
  rw [h 3 (by omega)]
  exact a4 s hs
theorem Evo_Fr3 {D : SH} {lv : Int → Nat} {sl t N : Nat} {rd : Int} {w w' : World} {ρ c : Nat → Nat} (h : Fr3 w w') (hkt : kdA t = 6) : Evo D lv sl t rd w N ρ c w' N ρ c := by
  have h6 := kd6 hkt
  have e4 : w' (t + 4) = w (t + 4) := h (t + 4) (by omega)
  exact ⟨fun c0 h1 h2 => h c0 h2, Nat.le_refl _, fun _ _ => ⟨rfl, le_rfl⟩, fun _ _ _ => Iff.rfl, fun x => Or.inr ⟨by rw [e4], fun _ => rfl⟩, fun x h h' => absurd h' (by omega), fun x _ _ => by rw [e4]⟩
/-- negated atoms, comparisons, sums: their variables are bound by what is ahead -/
def SafeL (R : RU) : Prop := ∀ p, p < R.ln → R.fm p ≠ 0 → ∀ cc, cc < 3 → (R.fm p = 3 → cc ≠ 0) → R.tm p cc < 0 → ∃ j c', j < p ∧ c' < 3 ∧ (R.fm j = 0 ∨ (R.fm j = 3 ∧ c' = 0)) ∧ R.tm j c' = R.tm p cc
def SafeH (R : RU) : Prop := ∀ cc, cc < 3 → R.ht cc < 0 → ∃ p c', p < R.ln ∧ c' < 3 ∧ (R.fm p = 0 ∨ (R.fm p = 3 ∧ c' = 0)) ∧ R.tm p c' = R.ht cc
def Few (R : RU) : Prop := cnt (fun p => decide (R.fm p = 0)) R.ln ≤ 3
/-- what a rule of a stratum is -/
def RuL (D : SH) (lv : Int → Nat) (RR : RU → Prop) (sl r : Nat) (R : RU) : Prop :=
  WfD D ∧ Lev D lv RR ∧ RR R ∧ lv (r : Int) = sl ∧ R.tg = (r : Int) ∧ r < 10 ∧ SafeL R ∧ SafeH R ∧ Few R
theorem SA_co_in {w : World} {r : Int} (h : 1 ≤ (SA w).co r) : ∃ n : Nat, r = (n : Int) ∧ n < 10 ∧ 1 ≤ w 3 n ∧ ((SA w).co r : Nat) = (w 3 n).toNat := by
  by_cases q : 0 ≤ r ∧ r < 10
  · have e : r = (r.toNat : Int) := by omega
    refine ⟨r.toNat, e, by omega, ?_, ?_⟩
    · rw [e, SA_co (by omega)] at h; omega
    · rw [e, SA_co (by omega)]; rw [Int.toNat_natCast]
  · have : (SA w).co r = 0 := by
      show (if 0 ≤ r ∧ r < 10 then (w 3 r.toNat).toNat else 0) = 0
      rw [if_neg q]
    omega
theorem bgld_103 {w : World} {b t E : Nat} {p lr : Int} : ld (bg w b t E) p lr 103 1 = (b : Int) ∧ ld (bg w b t E) p lr 103 2 = (t : Int) ∧ ld (bg w b t E) p lr 103 3 = (E : Int) ∧ ld (bg w b t E) p lr 103 4 = 0 ∧ ld (bg w b t E) p lr 103 5 = 1 ∧ ld (bg w b t E) p lr 103 6 = p ∧ ld (bg w b t E) p lr 103 7 = lr := by
  unfold ld bg
  refine ⟨?_, ?_, ?_, ?_, ?_, ?_, ?_⟩ <;> simp [up, setV]
/-- a walk that begins -/
theorem WkC_bg {D : SH} {lv : Int → Nat} {FF : MM} {RR : RU → Prop} {sl t b E N : Nat} {R : RU} {w w1 : World} {ρ c : Nat → Nat} {L : Nat → List Nat} {p : Int} (hkb : kdA b = 1) (hkt : kdA t = 6) (hSI : SI D lv FF RR sl t w N ρ c L) (hWf : WfR D R) (hSL : SafeL R) (hln : E ≤ R.ln) (hRB : RB w b = R) (hp : p = -1 ∨ ∃ pn : Nat, pn < E ∧ p = (pn : Int) ∧ R.fm pn = 0)
    (hF : Fr3 w w1) (h1 : w1 103 1 = (b : Int)) (h2 : w1 103 2 = (t : Int)) (h3 : w1 103 3 = (E : Int)) (h6' : w1 103 6 = p) : WkC w1 b t E N ρ c L := by
  have hb1 := kd1 hkb
  have h6 := kd6 hkt
  obtain ⟨hS, hSA, hA, hVC, hVV, hSn, hlvl⟩ := hSI
  obtain ⟨hw5, hwfm, hwat, hwc, ⟨hwt1, hwt2⟩, hwtm, hwht⟩ := hWf
  have e1 : ∀ q, w1 (b + 1) q = R.fm q := fun q => by rw [hF (b + 1) (by omega), ← hRB]; rfl
  have e2 : ∀ q, w1 (b + 2) q = R.sj q := fun q => by rw [hF (b + 2) (by omega), ← hRB]; rfl
  have e3 : ∀ q cc, w1 (b + 3) (3 * q + cc) = R.tm q cc := fun q cc => by rw [hF (b + 3) (by omega), ← hRB]; rfl
  have hlead : w1 103 6 = -1 ∨ (0 ≤ w1 103 6 ∧ w1 103 6 < (E : Int)) := by
    rw [h6']
    rcases hp with hp | ⟨pn, hp1, hp2, -⟩
    · exact Or.inl hp
    · exact Or.inr ⟨by omega, by omega⟩
  refine ⟨by rw [h1, Int.toNat_natCast], hkb, by rw [h2, Int.toNat_natCast], hkt, h3, by omega, hlead, WfS_congr (fun c a b k => by rw [hF c (by omega)]) hS, AMod_congr (fun c a b => hF c (by omega)) (fun c a b => hF c (by omega)) hA, fun q hq => ⟨fun cc hcc => ?_, ?_, fun hf => ?_⟩, fun d hd hf cc hcc hf3 hneg => ?_⟩
  · rw [e3]; exact hwtm q cc (by omega) hcc
  · rw [e1]; exact hwfm q (by omega)
  · rw [e1] at hf
    obtain ⟨hc1, hc0⟩ := hwat q (by omega) hf
    rw [← hSA] at hc1
    obtain ⟨n, hn, hn10, hn3, hco⟩ := SA_co_in hc1
    refine ⟨n, by rw [e2]; exact hn, hn10, by rw [hF 3 (by omega)]; exact hn3, fun cc hcc hcc2 => ?_⟩
    rw [hF 3 (by omega)] at hcc2
    rw [e3]
    refine hc0 cc ?_ hcc
    rw [← hSA, hco]
    omega
  · rw [e1] at hf hf3
    rw [e3] at hneg
    have hpE := pl_lt (w := w1) hd hlead
    obtain ⟨j, c', hj, hc', hjf, hje⟩ := hSL (pl w1 d) (by omega) hf cc hcc hf3 hneg
    obtain ⟨d', hd', ed'⟩ := pl_onto (w := w1) (E := E) hlead (show j < E by omega)
    refine ⟨d', c', ?_, hc', by rw [e1, ed']; exact hjf, by rw [e3, e3, ed']; exact hje⟩
    have k1 := pl_cases w1 d
    have k2 := pl_cases w1 d'
    rw [ed'] at k2
    rcases hp with hp | ⟨pn, hp1, hp2, hp3⟩
    · rw [h6', hp] at k1 k2
      omega
    · have hne : pl w1 d ≠ pn := fun e => hf (by rw [e]; exact hp3)
      rw [h6', hp2] at k1 k2
      omega
theorem wg_5 {F : Nat → Bool} {E : Nat} (hE : E ≤ 5) (h : cnt F E ≤ 3) : wg F E 0 ≤ 110592 := by
  have h6 : E = 0 ∨ E = 1 ∨ E = 2 ∨ E = 3 ∨ E = 4 ∨ E = 5 := by omega
  rcases h6 with rfl | rfl | rfl | rfl | rfl | rfl
  · simp [wg]
  · cases h0 : F 0 <;> simp [wg, h0]
  · cases h0 : F 0 <;> cases h1 : F 1 <;> simp [wg, h0, h1]
  · cases h0 : F 0 <;> cases h1 : F 1 <;> cases h2 : F 2 <;> simp [wg, h0, h1, h2]
  · cases h0 : F 0 <;> cases h1 : F 1 <;> cases h2 : F 2 <;> cases h3 : F 3 <;> simp [wg, cnt, h0, h1, h2, h3] at h ⊢
  · cases h0 : F 0 <;> cases h1 : F 1 <;> cases h2 : F 2 <;> cases h3 : F 3 <;> cases h4 : F 4 <;> simp [wg, cnt, h0, h1, h2, h3, h4] at h ⊢
/-- an assignment and the slots of its atoms -/
def Asg (N : Nat) (ρ c : Nat → Nat) (R : RU) (σ : Nat → Nat) (X : Nat → Nat) : Prop :=
  VA σ ∧ (∀ q, q < R.ln → lit (AM N ρ c) R σ q) ∧ ∀ q, q < R.ln → R.fm q = 0 → X q < N ∧ (ρ (X q) : Int) = R.sj q ∧ c (X q) = tc σ (R.tm q)
theorem walk_n {D : SH} {lv : Int → Nat} {FF : MM} {RR : RU → Prop} {sl t b r N : Nat} {R : RU} {w : World} {ρ c : Nat → Nat} {L : Nat → List Nat} {p lr rd x2 x4 x5 x6 x8 x9 x10 : Int} (hkb : kdA b = 1) (hkt : kdA t = 6) (hSI : SI D lv FF RR sl t w N ρ c L) (hRu : RuL D lv RR sl r R) (hRB : RB w b = R) (hp : p = -1 ∨ ∃ pn : Nat, pn < R.ln ∧ p = (pn : Int) ∧ R.fm pn = 0) (ho : w t 2 = 0) (h5 : x5 = 0 ∨ x5 = 1) :
    ∃ w' x5' N' ρ' c' L', f_Mi_sweep_154 (ld (bg w b t R.ln) p lr) t x2 rd x4 x5 x6 b x8 x9 x10 0 = some (Sum.inl (w', x5', wr (x10 + 1))) ∧ SI D lv FF RR sl t w' N' ρ' c' L' ∧ Evo D lv sl t rd w N ρ c w' N' ρ' c' ∧ (x5' = 0 ∨ (x5' = 1 ∧ (x5 = 1 ∨ Ph D ρ c N < Ph D ρ' c' N'))) ∧ (x5' = 0 → x5 = 0 ∧ N' = N ∧ ρ' = ρ ∧ c' = c ∧ L' = L ∧ w' (t + 4) = w (t + 4)) ∧
      (w' t 2 = 0 → ∀ σ X, Asg N ρ c R σ X → (∀ q, q < R.ln → R.fm q = 0 → timely p lr (w (t + 4)) q (X q) = true ∧ w' (t + 4) (X q) ≠ rd) → ∃ k, AM N' ρ' c' (r : Int) k ∧ le D r (tc σ R.ht) k) ∧ (w' t 2 ≠ 0 → w' t 2 = 1 ∧ OvB D lv FF RR sl (AM N' ρ' c')) := by
  obtain ⟨hD, hL, hR, hlv, htg, hr, hSL, hSH, hFew⟩ := hRu
  have hWf := (hL R hR).1
  have hb1 := kd1 hkb
  have h6 := kd6 hkt
  have hVV := hSI.2.2.2.2.1
  obtain ⟨w1, hw1⟩ : ∃ w1, w1 = ld (bg w b t R.ln) p lr := ⟨_, rfl⟩
  have hF : Fr3 w w1 := fun c hc => by rw [hw1]; exact bgld_fr (by omega) (by omega)
  obtain ⟨g1, g2, g3, g4, g5, g6, g7⟩ := bgld_103 (w := w) (b := b) (t := t) (E := R.ln) (p := p) (lr := lr)
  rw [← hw1] at g1 g2 g3 g4 g5 g6 g7
  have g104 : w1 104 = vk w 8 := by rw [hw1, ld_V, bg_V]
  have hV1 : VV (w1 104) := by
    rw [g104]
    intro v
    unfold vk
    split
    · omega
    · exact hVV v
  have hC := WkC_bg hkb hkt hSI hWf hSL (Nat.le_refl _) hRB hp hF g1 g2 g3 g6
  have hRB1 : RB w1 b = R := (RB_congr (hF b (by omega)) (hF _ (by omega)) (hF _ (by omega)) (hF _ (by omega))).trans hRB
  have e1 : ∀ q, w1 (b + 1) q = R.fm q := fun q => by rw [← hRB1]; rfl
  have e2 : ∀ q, w1 (b + 2) q = R.sj q := fun q => by rw [← hRB1]; rfl
  have e3 : ∀ q cc, w1 (b + 3) (3 * q + cc) = R.tm q cc := fun q cc => by rw [← hRB1]; rfl
  have eh : ∀ cc, w1 (b + 3) (15 + cc) = R.ht cc := fun cc => by rw [← hRB1]; rfl
  have hHd : HdS w1 b R.ln := fun cc hcc hneg => by
    rw [eh] at hneg
    obtain ⟨q, c', a1, a2, a3, a4⟩ := hSH cc hcc hneg
    exact ⟨q, c', a1, a2, by rw [e1]; exact a3, by rw [e3, eh]; exact a4⟩
  have hP3 : cnt (isP w1 b) R.ln ≤ 3 := by
    have : isP w1 b = fun p => decide (R.fm p = 0) := by
      funext q
      unfold isP
      rw [e1]
    rw [this]
    exact hFew
  have hdr : 1 ≤ w1 3 r := by
    have h1 := hWf.2.2.2.2.1.1
    rw [htg, ← hSI.2.1, SA_co hr] at h1
    rw [hF 3 (by omega)]
    omega
  have hE5 := hC.2.2.2.2.2.1
  have hwgb := wg_5 hE5 (F := isH w1 b) (by rw [cnt_isH hE5 hC.2.2.2.2.2.2.1]; exact hP3)
  obtain ⟨w', x5', N', ρ', c', L', er, hSI', hEv', h5', hun', hcp', hov'⟩ := loop154 (x2 := x2) (x4 := x4) (x6 := x6) (x8 := x8) (x9 := x9) (x10 := x10) (rd := rd) (wg (isH w1 b) R.ln 0) w1 N ρ c L x5 0 _ _ hC ⟨hD, hL, hR, hlv, htg, hr, rfl, hRB1, hHd, hdr, hP3⟩ (SI_Fr3 hF hkt hV1 hSI) (by rw [hF t (by omega)]; exact ho) h5 (Or.inl ⟨g4, g5, hV1, rfl, rfl⟩) (Nat.le_refl _) (by omega)
  rw [← hw1]
  refine ⟨w', x5', N', ρ', c', L', er, hSI', (Evo_Fr3 hF hkt).trans hEv', h5', fun h => ?_, fun hf σ X hAs hX => ?_, hov'⟩
  · have := hun' h
    exact ⟨this.1, this.2.1, this.2.2.1, this.2.2.2.1, this.2.2.2.2.1, this.2.2.2.2.2.trans (hF _ (by omega))⟩
  · obtain ⟨hσ, hlit, hsl⟩ := hAs
    have hle := hC.2.2.2.2.2.2.1
    obtain ⟨v', pa', hEn, hKv, hVv, hCv, hAll⟩ := own_path (P := fun d s => w1 (b + 1) (pl w1 d) = 0 → w' (t + 4) s ≠ rd) (X := fun d => X (pl w1 d)) hC hσ (fun d hd => by rw [hRB1]; exact hlit _ (pl_lt hd hle)) (fun d hd f0 => by
      have hpE := pl_lt (w := w1) hd hle
      rw [e1] at f0
      obtain ⟨a1, a2, a3⟩ := hsl _ hpE f0
      refine ⟨a1, by rw [e2]; exact a2, by rw [hRB1]; exact a3, ?_⟩
      rw [g6, g7, hF (t + 4) (by omega)]
      exact (hX _ hpE f0).1) (fun d hd => ⟨fun f0 _ => (hX _ (pl_lt (w := w1) hd hle) (by rw [← e1]; exact f0)).2, fun f0 f0' => absurd f0' f0⟩) R.ln 0 (w1 104) [] (by omega) hV1 (fun j c' hj => absurd hj (by omega)) (fun v hv hne => by
      rw [g104] at hne
      unfold vk at hne
      rw [if_pos hv] at hne
      exact absurd rfl hne) rfl trivial
    have := hcp' hf (v', pa') ((mem_en _ _ _ _ _).mpr hEn) hAll
    have hht := hd_cons (w := w1) (b := b) (E := R.ln) hle hHd hCv hKv (fun cc hcc => by rw [eh]; exact (hWf.2.2.2.2.2.2 cc hcc).1)
    rw [hRB1] at hht
    show ∃ k, AM N' ρ' c' (r : Int) k ∧ le D r (tc σ R.ht) k
    rw [← hht]
    exact this
