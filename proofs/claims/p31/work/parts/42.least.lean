/-! MEANING: the least model, stratum by stratum; there is one at most -/
def Closed (D : SH) (lv : Int → Nat) (FF : MM) (RR : RU → Prop) (M : MM) (s : Nat) : Prop :=
  (∀ r n, FF r n → lv r = s → ∃ m, M r m ∧ le D r n m) ∧ ∀ R, RR R → lv R.tg = s → ∀ σ, Sat M R σ → ∃ m, M R.tg m ∧ le D R.tg (tc σ R.ht) m
def OkM (D : SH) (M : MM) : Prop := (∀ r n, M r n → n < 2097152 ∧ 1 ≤ D.co r) ∧ ∀ r n m, M r n → M r m → kz (D.kq r) n = kz (D.kq r) m → n = m
def Lev (D : SH) (lv : Int → Nat) (RR : RU → Prop) : Prop := ∀ R, RR R → WfR D R ∧ ∀ p, p < R.ln → (R.fm p = 0 → lv (R.sj p) ≤ lv R.tg ∧ (D.ki (R.sj p) ≠ 0 → ¬ Gr D R p → lv (R.sj p) < lv R.tg)) ∧ (R.fm p = 1 → lv (R.sj p) < lv R.tg)
def Agb (lv : Int → Nat) (s : Nat) (M M' : MM) : Prop := ∀ r n, lv r < s → (M r n ↔ M' r n)
/-- all that is in M of a stratum is below what any closed set has -/
def Snd (D : SH) (lv : Int → Nat) (FF : MM) (RR : RU → Prop) (M : MM) (s : Nat) : Prop := ∀ M', OkM D M' → Agb lv s M M' → Closed D lv FF RR M' s → ∀ r n, lv r = s → M r n → ∃ m, M' r m ∧ le D r n m
def Least (D : SH) (lv : Int → Nat) (FF : MM) (RR : RU → Prop) (M : MM) : Prop := OkM D M ∧ ∀ s, Closed D lv FF RR M s ∧ Snd D lv FF RR M s
theorem least_uni {D : SH} {lv : Int → Nat} {FF : MM} {RR : RU → Prop} {M M' : MM} (hD : WfD D) (h : Least D lv FF RR M) (h' : Least D lv FF RR M') : ∀ r n, M r n ↔ M' r n := by
  have key : ∀ s r n, lv r < s → (M r n ↔ M' r n) := by
    intro s
    induction s with
    | zero => intro r n hr; omega
    | succ s ih =>
      intro r n hr
      by_cases hs : lv r < s
      · exact ih r n hs
      · have e : lv r = s := by omega
        have a1 : Agb lv s M M' := fun r n h => ih r n h
        have a2 : Agb lv s M' M := fun r n h => (ih r n h).symm
        have one : ∀ {X Y : MM}, Least D lv FF RR X → Least D lv FF RR Y → Agb lv s X Y → Agb lv s Y X → X r n → Y r n := by
          intro X Y hX hY hXY hYX hx
          obtain ⟨m, hm, hle⟩ := (hX.2 s).2 Y hY.1 hXY (hY.2 s).1 r n e hx
          obtain ⟨o, ho, hle2⟩ := (hY.2 s).2 X hX.1 hYX (hX.2 s).1 r m e hm
          have e1 : n = o := hX.1.2 r n o hx ho (hle.1.trans hle2.1)
          subst e1
          have e2 : n = m := le_anti hD (hX.1.1 r n hx).2 (hX.1.1 r n hx).1 (hY.1.1 r m hm).1 hle hle2
          rw [e2]
          exact hm
        exact ⟨one h h' a1 a2, one h' h a2 a1⟩
  exact fun r n => key (lv r + 1) r n (Nat.lt_succ_self _)
/-- what held when it was looked at -/
def hlit (D : SH) (lv : Int → Nat) (M : MM) (s : Nat) (R : RU) (σ : Nat → Nat) (p : Nat) : Prop :=
  if R.fm p = 0 then (if lv (R.sj p) < s then M (R.sj p) (tc σ (R.tm p)) else ∃ n, M (R.sj p) n ∧ le D (R.sj p) (tc σ (R.tm p)) n) else lit M R σ p
theorem le_plain {D : SH} {r : Int} {n m : Nat} (h : le D r n m) (hk : D.ki r = 0) : n = m := by
  have := h.1
  unfold SH.kq at this
  rw [if_pos hk] at this
  exact this
theorem head_below {D : SH} {lv : Int → Nat} {FF : MM} {RR : RU → Prop} {M M' : MM} {s : Nat} {R : RU} {σ : Nat → Nat} (hD : WfD D) (hL : Lev D lv RR) (hR : RR R) (hs : lv R.tg = s) (hO : OkM D M') (hag : Agb lv s M M') (hC : Closed D lv FF RR M' s)
    (hm : ∀ r n, lv r = s → M r n → ∃ m, M' r m ∧ le D r n m) (hσ : VA σ) (hw : ∀ p, p < R.ln → hlit D lv M s R σ p) : ∃ m, M' R.tg m ∧ le D R.tg (tc σ R.ht) m := by
  obtain ⟨hWf, hlv⟩ := hL R hR
  obtain ⟨σ', hS, hle⟩ := mono (M := M') hD hWf (fun r m h => (hO.1 r m h).1) hσ (fun p hp => by
    have h := hw p hp
    have hl := hlv p hp
    unfold hlit at h
    unfold wlit
    by_cases f0 : R.fm p = 0
    · rw [if_pos f0] at h ⊢
      have hl0 := hl.1 f0
      by_cases hlt : lv (R.sj p) < s
      · rw [if_pos hlt] at h
        exact Or.inl ((hag _ _ hlt).mp h)
      · rw [if_neg hlt] at h
        obtain ⟨n, hn, hle⟩ := h
        obtain ⟨m, hm1, hle2⟩ := hm _ n (by omega) hn
        have hle3 := le_trans' hle hle2
        by_cases hk : D.ki (R.sj p) = 0
        · rw [le_plain hle3 hk]
          exact Or.inl hm1
        · refine Or.inr ⟨hk, ?_, m, hm1, hle3⟩
          exact Classical.byContradiction fun hg => hlt (by rw [← hs]; exact hl0.2 hk hg)
    · rw [if_neg f0] at h ⊢
      unfold lit at h ⊢
      rw [if_neg f0] at h ⊢
      by_cases f1 : R.fm p = 1
      · rw [if_pos f1] at h ⊢
        have hlt : lv (R.sj p) < s := by rw [← hs]; exact hl.2 f1
        exact fun hx => h ((hag _ _ hlt).mpr hx)
      · rw [if_neg f1] at h ⊢
        exact h)
  obtain ⟨m, hm1, hle2⟩ := hC.2 R hR hs σ' hS
  exact ⟨m, hm1, le_trans' hle hle2⟩
/-- what is closed, what is below, is so by the strata up to that one -/
theorem lit_congr {M M' : MM} {R : RU} {σ : Nat → Nat} {p : Nat} (h : R.fm p ≤ 1 → (M (R.sj p) (tc σ (R.tm p)) ↔ M' (R.sj p) (tc σ (R.tm p)))) : lit M R σ p ↔ lit M' R σ p := by
  unfold lit
  by_cases f0 : R.fm p = 0
  · rw [if_pos f0, if_pos f0]; exact h (by omega)
  · rw [if_neg f0, if_neg f0]
    by_cases f1 : R.fm p = 1
    · rw [if_pos f1, if_pos f1]; exact not_congr (h (by omega))
    · rw [if_neg f1, if_neg f1]
theorem closed_congr {D : SH} {lv : Int → Nat} {FF : MM} {RR : RU → Prop} {M M' : MM} {s : Nat} (hL : Lev D lv RR) (h : Agb lv (s + 1) M M') (hC : Closed D lv FF RR M s) : Closed D lv FF RR M' s := by
  refine ⟨fun r n hf hr => ?_, fun R hR hs σ hS => ?_⟩
  · obtain ⟨m, hm, hle⟩ := hC.1 r n hf hr
    exact ⟨m, (h r m (by omega)).mp hm, hle⟩
  · obtain ⟨hWf, hlv⟩ := hL R hR
    have hS' : Sat M R σ := ⟨hS.1, fun p hp => (lit_congr (fun hf => by
      have hl := hlv p hp
      have h01 := hWf.2.1 p hp
      have : lv (R.sj p) < s + 1 := by
        rcases (show R.fm p = 0 ∨ R.fm p = 1 by omega) with f | f
        · have := (hl.1 f).1; omega
        · have := hl.2 f; omega
      exact h _ _ this)).mpr (hS.2 p hp)⟩
    obtain ⟨m, hm, hle⟩ := hC.2 R hR hs σ hS'
    exact ⟨m, (h _ m (by omega)).mp hm, hle⟩
theorem agb_le {lv : Int → Nat} {s t : Nat} {M M' : MM} (h : Agb lv t M M') (hs : s ≤ t) : Agb lv s M M' := fun r n hr => h r n (by omega)
theorem agb_symm {lv : Int → Nat} {s : Nat} {M M' : MM} (h : Agb lv s M M') : Agb lv s M' M := fun r n hr => (h r n hr).symm
theorem agb_trans {lv : Int → Nat} {s : Nat} {M M' M'' : MM} (h : Agb lv s M M') (h' : Agb lv s M' M'') : Agb lv s M M'' := fun r n hr => (h r n hr).trans (h' r n hr)
theorem snd_congr {D : SH} {lv : Int → Nat} {FF : MM} {RR : RU → Prop} {M M' : MM} {s : Nat} (h : Agb lv (s + 1) M M') (hS : Snd D lv FF RR M s) : Snd D lv FF RR M' s := by
  intro X hX hag hC r n hr hn
  exact hS X hX (agb_trans (agb_le h (by omega)) hag) hC r n hr ((h r n (by omega)).mpr hn)
