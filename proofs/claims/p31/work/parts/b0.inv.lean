/-! BOTH: what holds between calls -/
/-- literals alike -/
def EqT (R R' : RU) : Prop := R'.ln = R.ln ∧ ∀ p, p < R.ln → R'.fm p = R.fm p ∧ R'.sj p = R.sj p ∧ ∀ c, c < 3 → R'.tm p c = R.tm p c
theorem RE.T {R R' : RU} (h : RE R R') : EqT R R' := ⟨h.1, h.2.1⟩
theorem EqT.wf {D : SH} {R R' : RU} (h : EqT R R') (hR : WfL D R) : WfL D R' := by
  obtain ⟨h5, h2, h3, h4, h7⟩ := hR
  refine ⟨by rw [h.1]; exact h5, fun p hp => ?_, fun p hp hf => ?_, fun p hp hf => ?_, fun p c hp hc => ?_⟩
  · rw [h.1] at hp
    rw [(h.2 p hp).1]; exact h2 p hp
  · rw [h.1] at hp
    obtain ⟨a, b, d⟩ := h.2 p hp
    rw [a] at hf
    have := h3 p hp hf
    exact ⟨by rw [b]; exact this.1, fun c hc hc3 => by rw [b] at hc; rw [d c hc3]; exact this.2 c hc hc3⟩
  · rw [h.1] at hp
    obtain ⟨a, b, d⟩ := h.2 p hp
    rw [a] at hf
    rw [d 2 (by omega)]; exact h4 p hp hf
  · rw [h.1] at hp
    rw [(h.2 p hp).2.2 c hc]; exact h7 p c hp hc
theorem EqT.safeL {R R' : RU} (h : EqT R R') : SafeL R ↔ SafeL R' := by
  have one : ∀ {R R' : RU}, EqT R R' → SafeL R → SafeL R' := by
    intro R R' h hS p hp hf cc hcc h3 hn
    rw [h.1] at hp
    obtain ⟨a, b, d⟩ := h.2 p hp
    rw [a] at hf h3
    rw [d cc hcc] at hn ⊢
    obtain ⟨j, c', hj, hc', hjf, he⟩ := hS p hp hf cc hcc h3 hn
    obtain ⟨a', b', d'⟩ := h.2 j (by omega)
    exact ⟨j, c', hj, hc', by rw [a']; exact hjf, by rw [d' c' hc']; exact he⟩
  refine ⟨one h, one ⟨h.1.symm, fun p hp => ?_⟩⟩
  rw [h.1] at hp
  have := h.2 p hp
  exact ⟨this.1.symm, this.2.1.symm, fun c hc => (this.2.2 c hc).symm⟩
theorem EqT.few {R R' : RU} (h : EqT R R') (hS : Few R) : Few R' := by
  unfold Few at hS ⊢
  rw [h.1]
  have : cnt (fun p => decide (R'.fm p = 0)) R.ln = cnt (fun p => decide (R.fm p = 0)) R.ln := cnt_congr (fun i hi => by show decide (R'.fm i = 0) = decide (R.fm i = 0); rw [(h.2 i hi).1])
  rw [this]
  exact hS
/-- the least costs: no more than all ways, and as much as one of them -/
def sumH (C : Int → Nat → Nat) (R : RU) (σ : Nat → Nat) : Nat := sumN (fun p => if R.fm p = 0 then C (R.sj p) (tc σ (R.tm p)) else 0) R.ln
def CostP (D : SH) (FC : Int → Nat → Nat → Prop) (RR : RU → Prop) (M : MM) (C : Int → Nat → Nat) : Prop :=
  (∀ r m, M r m → C r m ≤ 1000000) ∧ (∀ r k v m, FC r k v → M r m → kz (D.kq r) m = kz (D.kq r) k → C r m ≤ v) ∧
  (∀ R σ m, RR R → Sat M R σ → M R.tg m → kz (D.kq R.tg) m = kz (D.kq R.tg) (tc σ R.ht) → C R.tg m ≤ 1 + sumH C R σ) ∧
  ∀ r m, M r m → C r m = 1000000 ∨ (∃ k v, FC r k v ∧ kz (D.kq r) m = kz (D.kq r) k ∧ C r m = v) ∨ ∃ R σ, RR R ∧ Sat M R σ ∧ R.tg = r ∧ kz (D.kq r) m = kz (D.kq r) (tc σ R.ht) ∧ C r m = 1 + sumH C R σ
/-- costs of the facts that hold, in the class and in the reference -/
def FCA (nF : Nat) (w : World) (hour : Int) : Int → Nat → Nat → Prop := fun r k v => ∃ f, f < nF ∧ FaC w hour 0 f ∧ w 8 f = r ∧ w 9 f = (k : Int) ∧ w 10 f = (v : Int)
def RrA (m : Nat) (w : World) : RU → Prop := Rof (FA w) (GA w) m
def RrB (m : Nat) (w : World) : RU → Prop := Rof (FB w) (GB w) m
def ISch (wA wB : World) : Prop := WfS wA ∧ ∀ r : Nat, r < 10 → wB 3 r = wA 3 r ∧ wB 4 r = wA 4 r ∧ wB 5 r = wA 5 r ∧ wB 2 r = if wA 3 r = 0 then 0 else 1
def IFac (nF : Nat) (wA wB : World) : Prop := FaW nF wA ∧ FaB nF wB ∧ (∀ f, f < nF → wB 7 f = wA 8 f ∧ (∃ k : Nat, wA 9 f = (k : Int) ∧ k < 2097152 ∧ ∀ j, j < 3 → wB 8 (3 * f + j) = ((clm k j : Nat) : Int)) ∧ (wB 9 f = wA 10 f ∧ 1 ≤ wA 10 f ∧ wA 10 f ≤ 100) ∧ (wB 10 f = wA 11 f ∧ wB 11 f = wA 12 f ∧ 0 ≤ wA 11 f ∧ wA 11 f ≤ wA 12 f ∧ wA 12 f ≤ 3) ∧ wB 12 f = wA 13 f ∧ (wA 13 f = 0 ∨ wA 13 f = 1)) ∧ wA 7 1 = ((cnt (fun f => decide (wA 13 f = 0)) nF : Nat) : Int)
def IRul (m : Nat) (wA wB : World) : Prop := PgA wA m ∧ PgB wB m ∧ ∀ j, j < m → RE (RB wA (22 + 4 * j)) (RBB wB j) ∧ wB 13 j = wA (22 + 4 * j) 2 ∧ (wA (22 + 4 * j) 2 = 0 ∨ wA (22 + 4 * j) 2 = 1) ∧ SafeL (RB wA (22 + 4 * j)) ∧ SafeH (RB wA (22 + 4 * j)) ∧ Few (RB wA (22 + 4 * j))
def DnA (w : World) (b : Nat) : Prop := w b 0 = ((RB w b).ln : Int) ∧ WfL (SA w) (RB w b)
def IDen (d : Nat) (wA wB : World) : Prop := wA 14 5 = (d : Int) ∧ wB 1 15 = (d : Int) ∧ d ≤ 6 ∧ (∀ j : Nat, j < 6 → wA 20 j = ((70 + 4 * j : Nat) : Int)) ∧ ∀ j, j < d → DnA wA (70 + 4 * j) ∧ RuBL wB (12 + j) ∧ EqT (RB wA (70 + 4 * j)) (RBB wB (12 + j)) ∧ SafeL (RB wA (70 + 4 * j)) ∧ Few (RB wA (70 + 4 * j))
def IDrf (wA wB : World) : Prop := DnA wA 94 ∧ RuBL wB 18 ∧ EqT (RB wA 94) (RBB wB 18) ∧ Few (RB wA 94) ∧ wB 14 18 = wA 94 1 ∧ (wA 94 1 = -1 ∨ ((∃ r : Nat, r < 10 ∧ wA 94 1 = (r : Int) ∧ 1 ≤ wA 3 r ∧ ∀ c : Nat, c < 3 → wA 3 r ≤ (c : Int) → (RB wA 94).ht c = 0) ∧ ∀ c, c < 3 → (RBB wB 18).ht c = (RB wA 94).ht c ∧ -8 ≤ (RB wA 94).ht c ∧ (RB wA 94).ht c < 128))
def MinL (D : SH) (RR : RU → Prop) (L : Nat → Nat) : Prop := ∀ lv, SolL D RR lv → ∀ q : Nat, q < 10 → L q ≤ lv (q : Int)
def ILev (m : Nat) (L : Nat → Nat) (top : Nat) (wA wB : World) : Prop := LA wA L top ∧ LB wB L ∧ top < 10 ∧ SolL (SA wA) (RrA m wA) (lvf L) ∧ MinL (SA wA) (RrA m wA) L
/-- the cells of the models and of the spares -/
def IRef (g : Nat → Nat) (wA : World) : Prop := (∀ i, i < 8 → ∃ j, j < 8 ∧ g i = 110 + 5 * j) ∧ (∀ i j, i < 8 → j < 8 → g i = g j → i = j) ∧ ∀ h : Nat, h < 4 → wA 108 h = (g h : Int) ∧ wA 109 h = (g (4 + h) : Int)
/-- the models of an hour -/
def IHou (nF m : Nat) (L : Nat → Nat) (g : Nat → Nat) (wA wB : World) (now h : Nat) : Prop :=
  ∃ (N : Nat) (ρ c : Nat → Nat) (Lc : Nat → List Nat) (n : Nat) (ρ' c' : Nat → Nat), AMod wA (g h) N ρ c Lc ∧ VCs wA N ρ c ∧ wA (g h) 2 = 0 ∧ Least (SA wA) (lvf L) (FFA nF wA (h : Int) 0) (RrA m wA) (AM N ρ c) ∧
    BMod wB h n ρ' c' ∧ VCs wB n ρ' c' ∧ n ≤ 48 ∧ Least (SA wB) (lvf L) (FFB nF wB (h : Int) 0) (RrB m wB) (AM n ρ' c') ∧
    (h = now → wA 150 0 ≠ 0 → ∃ C, CostP (SA wA) (FCA nF wA (h : Int)) (RrA m wA) (AM N ρ c) C ∧ ∀ s, s < N → wA 151 s = ((C (ρ s : Int) (c s) : Nat) : Int))
def Inv (nF m d now top : Nat) (L g : Nat → Nat) (wA wB : World) : Prop :=
  ISch wA wB ∧ IFac nF wA wB ∧ IRul m wA wB ∧ IDen d wA wB ∧ IDrf wA wB ∧ (wA 1 12 = (now : Int) ∧ wB 1 1 = (now : Int) ∧ now < 4) ∧ ILev m L top wA wB ∧ IRef g wA ∧ (∀ h, h < 4 → IHou nF m L g wA wB now h) ∧ VV (wA 104) ∧ VB wB
def II (wA wB : World) : Prop := ∃ nF m d now top L g, Inv nF m d now top L g wA wB
/-- what questions may change -/
def QAr (w w' : World) : Prop := (∀ c, c < 98 ∨ (107 ≤ c ∧ c < 152) → w' c = w c) ∧ VV (w' 104)
def QBr (w w' : World) : Prop := (∀ c k, (c < 20 ∨ 30 < c) → ¬ (c = 1 ∧ (k = 0 ∨ k = 29 ∨ k = 30 ∨ k = 32 ∨ k = 35)) → w' c k = w c k) ∧ (∀ k, k ≠ 4 → w' 20 k = w 20 k) ∧ (∀ k, k < 200 → w' 21 k = w 21 k) ∧ (∀ k, k < 600 → w' 22 k = w 22 k) ∧ VB w'
