/-! THE REFERENCE: the plan of a rule -/
def FrO (w w' : World) : Prop := ∀ c k, c ≠ 29 → c ≠ 30 → ¬ (c = 1 ∧ k = 35) → w' c k = w c k
theorem FrO.refl {w : World} : FrO w w := fun _ _ _ _ _ => rfl
theorem FrO.trans {w w' w'' : World} (h : FrO w w') (h' : FrO w' w'') : FrO w w'' := fun c k a b d => (h' c k a b d).trans (h c k a b d)
theorem FrO.cell {w w' : World} (h : FrO w w') {c : Nat} (h1 : c ≠ 1) (h2 : c ≠ 29) (h3 : c ≠ 30) : w' c = w c := funext fun k => h c k h2 h3 (fun z => h1 z.1)
theorem FrO.u {w : World} {c k : Nat} {v : Int} (h : c = 29 ∨ c = 30 ∨ (c = 1 ∧ k = 35)) : FrO w (up w c k v) := fun c' k' a b d => by
  unfold up
  rw [if_neg (fun z => by omega)]
theorem FrO.R {w w' : World} (h : FrO w w') (ru : Nat) : RBB w' ru = RBB w ru := RBB_congr (fun c h1 h2 => h.cell (by omega) (by omega) (by omega)) ru
theorem FrO.SA {w w' : World} (h : FrO w w') : SA w' = SA w := SA_c5 (fun c h1 h2 => h.cell (by omega) (by omega) (by omega))
theorem FrO.Q {w u : World} (h : FrO w u) (hV : VB w) : QBr w u := ⟨fun c k a b => h c k (by omega) (by omega) (fun z => b ⟨z.1, by omega⟩), fun k _ => by rw [h.cell (by decide) (by decide) (by decide)], fun k _ => by rw [h.cell (by decide) (by decide) (by decide)], fun k _ => by rw [h.cell (by decide) (by decide) (by decide)], fun v hv => by
  rw [h.cell (c := 24) (by decide) (by decide) (by decide)] at hv
  rw [h.cell (c := 23) (by decide) (by decide) (by decide)]
  exact hV v hv⟩
theorem searchB_n {w : World} {a r known : Nat} {f : Nat → Int} (ha : a < 95) (hr : r < 10) (hT : WfT w) (hsj : w 18 a = (r : Int)) (hkn : known < 256) (htm : ∀ c, c < 3 → w 19 (3 * a + c) = f c ∧ -8 ≤ f c ∧ f c < 128) : f_Re_searched w (a : Int) (known : Int) = some ((kcs f known (w 3 r).toNat : Nat) : Int) := by
  have h3 := (hT r hr).1
  obtain ⟨co, hco⟩ : ∃ co : Nat, w 3 r = (co : Int) := ⟨(w 3 r).toNat, by omega⟩
  rw [hco, Int.toNat_natCast]
  have ix : ∀ j : Nat, j < 3 → wr ((wr (3 * (a : Int))) + (j : Int)) = ((3 * a + j : Nat) : Int) := fun j hj => by
    rw [wr_of (x := 3 * (a : Int)) ⟨by omega, by omega⟩, wr_of (x := 3 * (a : Int) + (j : Int)) ⟨by omega, by omega⟩]
    omega
  unfold f_Re_searched f_Re_searched_5
  refine lp_go (F := fun z : (Int × Int) => f_Re_searched_5B w (a : Int) (known : Int) z.1 z.2) (fun k => (((kcs f known k : Nat) : Int), (k : Int))) _ co (fun k hk => ?_) ?_
  · show f_Re_searched_5B w (a : Int) (known : Int) ((kcs f known k : Nat) : Int) (k : Int) = some (Sum.inl (((kcs f known (k + 1) : Nat) : Int), ((k + 1 : Nat) : Int)))
    obtain ⟨h1, h2⟩ := htm k (by omega)
    have a1 := kcs_8 (f := f) (known := known) (show k ≤ 3 by omega)
    have hk8 : 2 ^ k < 8 := Nat.lt_of_le_of_lt (Nat.pow_le_pow_right (by omega) (show k ≤ 2 by omega)) (by decide)
    have e60 : ∀ y : Nat, y < 8 → f_Re_searched_60 w (a : Int) (known : Int) (k : Int) ((kcs f known k : Nat) : Int) (y : Int) = some (Sum.inl (((kcs f known k ||| y : Nat) : Int), ((k + 1 : Nat) : Int))) := fun y hy => by
      unfold f_Re_searched_60
      rw [bl_s, bl_s, ior_n (by omega) (by omega), wr_of (x := (k : Int) + 1) ⟨by omega, by omega⟩]
      rfl
    have e52 : f_Re_searched_52 w (a : Int) (known : Int) (k : Int) ((kcs f known k : Nat) : Int) = some (Sum.inl (((kcs f known k ||| 2 ^ k : Nat) : Int), ((k + 1 : Nat) : Int))) := by
      have hs : ishl 1 (k : Int) = ((2 ^ k : Nat) : Int) := bit_k (by omega)
      unfold f_Re_searched_52
      rw [hs, e60 _ hk8]
    have e60z : f_Re_searched_60 w (a : Int) (known : Int) (k : Int) ((kcs f known k : Nat) : Int) 0 = some (Sum.inl (((kcs f known k ||| 0 : Nat) : Int), ((k + 1 : Nat) : Int))) := e60 0 (by omega)
    have hks : kcs f known (k + 1) = kcs f known k ||| (if 0 ≤ f k ∨ known.testBit (-1 - f k).toNat = true then 2 ^ k else 0) := rfl
    unfold f_Re_searched_5B
    rw [gd_t ⟨by omega, by omega⟩, Int.toNat_natCast, hsj, gd_t ⟨by omega, by omega⟩, Int.toNat_natCast, hco, if_neg (by omega), ix k (by omega), gd_t ⟨by omega, by omega⟩, Int.toNat_natCast, h1, bl_s, e52, e60z, hks]
    by_cases q : 0 ≤ f k
    · rw [if_pos q, if_pos (Or.inl q)]
    · obtain ⟨v, hv⟩ : ∃ v : Nat, (-1) - f k = (v : Int) := ⟨((-1) - f k).toNat, by omega⟩
      have hv2 : (-1 - f k).toNat = v := by omega
      rw [if_neg q, wr_of (x := (-1) - f k) ⟨by omega, by omega⟩, hv, bit_one (by omega) (by omega), Int.toNat_natCast]
      by_cases t : known.testBit v = true
      · rw [if_pos t, if_pos rfl, if_pos (Or.inr t)]
      · rw [if_neg t, if_neg (by decide), if_neg (fun z => z.elim q t)]
  · show f_Re_searched_5B w (a : Int) (known : Int) ((kcs f known co : Nat) : Int) (co : Int) = _
    unfold f_Re_searched_5B
    rw [gd_t ⟨by omega, by omega⟩, Int.toNat_natCast, hsj, gd_t ⟨by omega, by omega⟩, Int.toNat_natCast, hco, if_pos (Int.le_refl _)]
/-- one turn: the atom is looked for -/
theorem selB_n {w : World} {ru known taken : Nat} (hRu : RuBL w ru) (hkn : known < 256) (htk : taken < 32) : f_Re_makePlan_30 w (ru : Int) (taken : Int) (known : Int) (-1) 0 0 = lp (fun z : (Int × Int × Int) => f_Re_makePlan_30B w (ru : Int) (taken : Int) (known : Int) z.1 z.2.1 z.2.2) ((selP (SA w) (RBB w ru) known taken (RBB w ru).ln).1, (((selP (SA w) (RBB w ru) known taken (RBB w ru).ln).2 : Nat) : Int), ((RBB w ru).ln : Int)) := by
  obtain ⟨hru, hT, h16, hW⟩ := hRu
  obtain ⟨R, hR⟩ : ∃ R, R = RBB w ru := ⟨_, rfl⟩
  rw [← hR] at h16 hW ⊢
  obtain ⟨h5, hfm, hat, hcmp, htm⟩ := hW
  have hD : WfD (SA w) := hT.D
  have e17 : ∀ p, w 17 (5 * ru + p) = R.fm p := fun p => by rw [hR]; rfl
  have e18 : ∀ p, w 18 (5 * ru + p) = R.sj p := fun p => by rw [hR]; rfl
  have e19 : ∀ p c, w 19 (3 * (5 * ru + p) + c) = R.tm p c := fun p c => by rw [hR]; rfl
  have main : ∀ p, p ≤ R.ln → lp (fun z : (Int × Int × Int) => f_Re_makePlan_30B w (ru : Int) (taken : Int) (known : Int) z.1 z.2.1 z.2.2) (-1, 0, 0) = lp (fun z : (Int × Int × Int) => f_Re_makePlan_30B w (ru : Int) (taken : Int) (known : Int) z.1 z.2.1 z.2.2) ((selP (SA w) R known taken p).1, (((selP (SA w) R known taken p).2 : Nat) : Int), (p : Int)) := by
    intro p
    induction p with
    | zero => intro _; rfl
    | succ p ih =>
      intro hp
      rw [ih (by omega)]
      refine lp_step (F := fun z : (Int × Int × Int) => f_Re_makePlan_30B w (ru : Int) (taken : Int) (known : Int) z.1 z.2.1 z.2.2) ?_
      obtain ⟨q1, hq1⟩ : ∃ q1, q1 = (selP (SA w) R known taken p).1 := ⟨_, rfl⟩
      obtain ⟨q2, hq2⟩ : ∃ q2, q2 = (selP (SA w) R known taken p).2 := ⟨_, rfl⟩
      have hq28 : q2 < 8 := by rw [hq2]; exact selP_8 hD
      show f_Re_makePlan_30B w (ru : Int) (taken : Int) (known : Int) (selP (SA w) R known taken p).1 (((selP (SA w) R known taken p).2 : Nat) : Int) (p : Int) = some (Sum.inl ((selP (SA w) R known taken (p + 1)).1, (((selP (SA w) R known taken (p + 1)).2 : Nat) : Int), ((p + 1 : Nat) : Int)))
      rw [← hq1, ← hq2]
      have hp5 : p < 5 := by omega
      have hsel : selP (SA w) R known taken (p + 1) = if R.fm p = 0 ∧ taken.testBit p = false ∧ (q1 = -1 ∨ pc q2 < pc (kcs (R.tm p) known ((SA w).co (R.sj p)))) then ((p : Int), kcs (R.tm p) known ((SA w).co (R.sj p))) else (q1, q2) := by
        rw [hq1, hq2]
        rfl
      have e118 : ∀ (x y : Int), f_Re_makePlan_118 w (ru : Int) (taken : Int) (known : Int) x y (p : Int) = some (Sum.inl (x, y, ((p + 1 : Nat) : Int))) := fun x y => by
        unfold f_Re_makePlan_118
        rw [bl_s, wr_of (x := (p : Int) + 1) ⟨by omega, by omega⟩]
        rfl
      have e110 : ∀ (y : Int), f_Re_makePlan_110 w (ru : Int) (taken : Int) (known : Int) (p : Int) y = some (Sum.inl ((p : Int), y, ((p + 1 : Nat) : Int))) := fun y => e118 _ _
      have hbit := bit_one (v := p) (m := taken) (by omega) (by omega)
      have i1 : wr ((wr (5 * (ru : Int))) + (p : Int)) = ((5 * ru + p : Nat) : Int) := by
        rw [wr_of (x := 5 * (ru : Int)) ⟨by omega, by omega⟩, wr_of (x := 5 * (ru : Int) + (p : Int)) ⟨by omega, by omega⟩]
        omega
      have g95 : 0 ≤ ((5 * ru + p : Nat) : Int) ∧ ((5 * ru + p : Nat) : Int) < 95 := ⟨by omega, by omega⟩
      have e70 : ∀ s0 : Nat, s0 < 8 → f_Re_makePlan_70 w (ru : Int) (taken : Int) (known : Int) q1 (q2 : Int) (p : Int) ((5 * ru + p : Nat) : Int) (s0 : Int) = if R.fm p = 0 ∧ taken.testBit p = false ∧ (q1 = -1 ∨ pc q2 < pc s0) then some (Sum.inl ((p : Int), (s0 : Int), ((p + 1 : Nat) : Int))) else some (Sum.inl (q1, (q2 : Int), ((p + 1 : Nat) : Int))) := fun s0 hs0 => by
        unfold f_Re_makePlan_70
        rw [gd_t g95, Int.toNat_natCast, e17, hbit, e118, e110, bits_n s0 hs0, bnd_s, bits_n q2 hq28, bnd_s]
        by_cases f0 : R.fm p = 0
        · rw [if_pos f0]
          by_cases t : taken.testBit p = true
          · rw [if_pos t, if_neg z10, if_neg (fun z => by rw [t] at z; exact absurd z.2.1 (by decide))]
          · have t0 : taken.testBit p = false := by simpa using t
            rw [if_neg t, if_pos rfl]
            by_cases h1 : q1 = -1
            · rw [if_pos h1, if_pos ⟨f0, t0, Or.inl h1⟩]
            · rw [if_neg h1]
              by_cases h2 : pc q2 < pc s0
              · rw [if_neg (by omega), if_pos ⟨f0, t0, Or.inr h2⟩]
              · rw [if_pos (by omega), if_neg (fun z => z.2.2.elim h1 h2)]
        · rw [if_neg f0, if_neg (fun z => f0 z.1)]
      unfold f_Re_makePlan_30B
      rw [gd_t ⟨by omega, by omega⟩, Int.toNat_natCast, h16, if_neg (by omega), i1, bl_s, gd_t g95, Int.toNat_natCast, e17, hsel]
      by_cases f0 : R.fm p = 0
      · obtain ⟨hc1, -⟩ := hat p (by omega) (by omega)
        obtain ⟨r, hr, hr10, hr3, hco⟩ := SA_co_in hc1
        have hse := searchB_n (w := w) (a := 5 * ru + p) (r := r) (known := known) (f := R.tm p) (by omega) hr10 hT (by rw [e18]; exact hr) hkn (fun c hc => ⟨e19 p c, htm p c (by omega) hc⟩)
        rw [if_pos f0, hse, bnd_s, hco, e70 _ (kcs_8 (by have := (hT r hr10).1; omega))]
        split <;> rfl
      · have e700 := e70 0 (by omega)
        rw [if_neg (fun z => f0 z.1)] at e700
        have e700 : f_Re_makePlan_70 w (ru : Int) (taken : Int) (known : Int) q1 (q2 : Int) (p : Int) ((5 * ru + p : Nat) : Int) 0 = _ := e700
        rw [if_neg f0, e700, if_neg (fun z => f0 z.1)]
  have := main R.ln (Nat.le_refl _)
  unfold f_Re_makePlan_30
  exact this
def PlB (w : World) (D : SH) (R : RU) (t : Nat) : Prop := w 1 35 = (t : Int) ∧ ∀ i, i < t → w 29 i = (plQ D R i).1 ∧ w 30 i = (((plQ D R i).2 : Nat) : Int)
theorem varsB_n {w : World} {ru p known : Nat} (taken : Int) (hRu : RuBL w ru) (hp : p < (RBB w ru).ln) (hf : (RBB w ru).fm p = 0) (hkn : known < 256) : f_Re_makePlan_174 w (ru : Int) taken (known : Int) ((5 * ru + p : Nat) : Int) 0 = some (Sum.inl (w, taken, ((known ||| vfr ((RBB w ru).tm p) 3 : Nat) : Int))) := by
  obtain ⟨hru, hT, h16, hW⟩ := hRu
  obtain ⟨h5, hfm, hat, hcmp, htm⟩ := hW
  obtain ⟨hc1, hc0⟩ := hat p hp (by omega)
  obtain ⟨r, hr, hr10, hr3, hco⟩ := SA_co_in hc1
  have h3 := (hT r hr10).1
  obtain ⟨co, hcoN⟩ : ∃ co : Nat, w 3 r = (co : Int) := ⟨(w 3 r).toNat, by omega⟩
  have hco' : (SA w).co ((RBB w ru).sj p) = co := by rw [hco]; omega
  have e18 : w 18 (5 * ru + p) = (r : Int) := hr
  have e19 : ∀ c, w 19 (3 * (5 * ru + p) + c) = (RBB w ru).tm p c := fun c => rfl
  have hvl : ∀ n, n ≤ 3 → vfr ((RBB w ru).tm p) n < 256 := fun n => by
    induction n with
    | zero => intro _; show 0 < 256; omega
    | succ n ih =>
      intro h
      show vfr ((RBB w ru).tm p) n ||| vb ((RBB w ru).tm p n) < 256
      exact Nat.or_lt_two_pow (n := 8) (ih (by omega)) (vb_lt (htm p n hp (by omega)))
  have hv3 : vfr ((RBB w ru).tm p) 3 = vfr ((RBB w ru).tm p) co := vfr_vb 3 co (by omega) (fun c h1 h2 => hc0 c (by rw [hco']; exact h1) h2)
  rw [hv3]
  have g95 : 0 ≤ ((5 * ru + p : Nat) : Int) ∧ ((5 * ru + p : Nat) : Int) < 95 := ⟨by omega, by omega⟩
  have ix : ∀ j : Nat, j < 3 → wr ((wr (3 * ((5 * ru + p : Nat) : Int))) + (j : Int)) = ((3 * (5 * ru + p) + j : Nat) : Int) := fun j hj => by
    rw [wr_of (x := 3 * ((5 * ru + p : Nat) : Int)) ⟨by omega, by omega⟩, wr_of (x := 3 * ((5 * ru + p : Nat) : Int) + (j : Int)) ⟨by omega, by omega⟩]
    omega
  unfold f_Re_makePlan_174
  have h := lp_go (F := fun z : (Int × Int) => f_Re_makePlan_174B w (ru : Int) taken z.1 ((5 * ru + p : Nat) : Int) z.2) (fun k => (((known ||| vfr ((RBB w ru).tm p) k : Nat) : Int), (k : Int))) (Sum.inl (w, taken, ((known ||| vfr ((RBB w ru).tm p) co : Nat) : Int))) co (fun k hk => ?_) ?_
  · have h : lp (fun z : (Int × Int) => f_Re_makePlan_174B w (ru : Int) taken z.1 ((5 * ru + p : Nat) : Int) z.2) (((known ||| 0 : Nat) : Int), ((0 : Nat) : Int)) = _ := h
    rw [Nat.or_zero] at h
    exact h
  · show f_Re_makePlan_174B w (ru : Int) taken ((known ||| vfr ((RBB w ru).tm p) k : Nat) : Int) ((5 * ru + p : Nat) : Int) (k : Int) = some (Sum.inl (((known ||| vfr ((RBB w ru).tm p) (k + 1) : Nat) : Int), ((k + 1 : Nat) : Int)))
    have h2 := htm p k hp (by omega)
    have a1 := hvl k (by omega)
    have a2 := vb_lt h2
    have a3 : known ||| vfr ((RBB w ru).tm p) k < 256 := Nat.or_lt_two_pow (n := 8) hkn a1
    have e227 : ∀ y : Nat, y < 256 → f_Re_makePlan_227 w (ru : Int) taken ((5 * ru + p : Nat) : Int) (k : Int) ((known ||| vfr ((RBB w ru).tm p) k : Nat) : Int) (y : Int) = some (Sum.inl (((known ||| vfr ((RBB w ru).tm p) k ||| y : Nat) : Int), ((k + 1 : Nat) : Int))) := fun y hy => by
      unfold f_Re_makePlan_227
      rw [bl_s, bl_s, ior_n (by omega) (by omega), wr_of (x := (k : Int) + 1) ⟨by omega, by omega⟩]
      rfl
    have hks : known ||| vfr ((RBB w ru).tm p) (k + 1) = known ||| vfr ((RBB w ru).tm p) k ||| vb ((RBB w ru).tm p k) := (Nat.or_assoc _ _ _).symm
    unfold f_Re_makePlan_174B
    rw [gd_t g95, Int.toNat_natCast, e18, gd_t ⟨by omega, by omega⟩, Int.toNat_natCast, hcoN, if_neg (by omega), ix k (by omega), gd_t ⟨by omega, by omega⟩, Int.toNat_natCast, e19, gd_t ⟨by omega, by omega⟩, hks]
    by_cases q : 0 ≤ (RBB w ru).tm p k
    · have e0 := e227 0 (by omega)
      have e0 : f_Re_makePlan_227 w (ru : Int) taken ((5 * ru + p : Nat) : Int) (k : Int) ((known ||| vfr ((RBB w ru).tm p) k : Nat) : Int) 0 = _ := e0
      have hv0 : vb ((RBB w ru).tm p k) = 0 := if_neg (by omega)
      rw [if_pos q, e0, hv0]
    · obtain ⟨v, hv⟩ : ∃ v : Nat, (-1) - (RBB w ru).tm p k = (v : Int) := ⟨((-1) - (RBB w ru).tm p k).toNat, by omega⟩
      have hv0 : vb ((RBB w ru).tm p k) = 2 ^ v := by
        unfold vb
        rw [if_pos (by omega)]
        congr 1
        omega
      have hbk : ishl 1 (v : Int) = ((2 ^ v : Nat) : Int) := bit_k (by omega)
      rw [hv0] at a2
      rw [if_neg q, wr_of (x := (-1) - (RBB w ru).tm p k) ⟨by omega, by omega⟩, hv, hbk, e227 _ a2, hv0]
  · show f_Re_makePlan_174B w (ru : Int) taken ((known ||| vfr ((RBB w ru).tm p) co : Nat) : Int) ((5 * ru + p : Nat) : Int) (co : Int) = _
    unfold f_Re_makePlan_174B
    rw [gd_t g95, Int.toNat_natCast, e18, gd_t ⟨by omega, by omega⟩, Int.toNat_natCast, hcoN, if_pos (Int.le_refl _)]
theorem planB_n {w : World} {ru : Nat} (hRu : RuBL w ru) (hFew : Few (RBB w ru)) : ∃ w', f_Re_makePlan w (ru : Int) = some w' ∧ FrO w w' ∧ PlB w' (SA w) (RBB w ru) (atoms (RBB w ru)) := by
  obtain ⟨hru, hT, h16, hW⟩ := id hRu
  have hD : WfD (SA w) := hT.D
  obtain ⟨h5, hfm, hat, hcmp, htm⟩ := id hW
  have ha3 : atoms (RBB w ru) ≤ 3 := hFew
  have loop : ∀ (j t : Nat) (u : World), t + j = atoms (RBB w ru) → FrO w u → PlB u (SA w) (RBB w ru) t → ∃ w', f_Re_makePlan_9 u (ru : Int) (((plS (SA w) (RBB w ru) t).2 : Nat) : Int) (((plS (SA w) (RBB w ru) t).1 : Nat) : Int) = some w' ∧ FrO w w' ∧ PlB w' (SA w) (RBB w ru) (atoms (RBB w ru)) := by
    intro j
    induction j with
    | zero =>
      intro t u ht hF hP
      have e : t = atoms (RBB w ru) := by omega
      have hR : RBB u ru = RBB w ru := hF.R ru
      have hao := atomsOf_n (w := u) (ru := ru) (n := (RBB w ru).ln) hru (by rw [hF.cell (by decide) (by decide) (by decide)]; exact h16) h5
      rw [hR] at hao
      refine ⟨u, ?_, hF, by rw [← e]; exact hP⟩
      unfold f_Re_makePlan_9
      refine lp_out ?_
      show f_Re_makePlan_9B u (ru : Int) _ _ = _
      unfold f_Re_makePlan_9B
      rw [hao, bnd_s, hP.1, if_pos (by rw [e]; exact Int.le_refl _)]
    | succ j ih =>
      intro t u ht hF hP
      have hta : t < atoms (RBB w ru) := by omega
      obtain ⟨hk, htk⟩ := plS_lt hD (R := RBB w ru) h5 htm t
      have hR : RBB u ru = RBB w ru := hF.R ru
      have hSu : SA u = SA w := hF.SA
      have hcell : ∀ c, c ≠ 1 → c ≠ 29 → c ≠ 30 → u c = w c := fun c a b d => hF.cell a b d
      have hRuu : RuBL u ru := ⟨hru, WfT_congr (fun c a b => hcell c (by omega) (by omega) (by omega)) hT, by rw [hR, hcell 16 (by decide) (by decide) (by decide)]; exact h16, by rw [hR, hSu]; exact hW⟩
      have hao := atomsOf_n (w := u) (ru := ru) (n := (RBB w ru).ln) hru (by rw [hcell 16 (by decide) (by decide) (by decide)]; exact h16) h5
      rw [hR] at hao
      have hsel := selB_n (known := (plS (SA w) (RBB w ru) t).1) (taken := (plS (SA w) (RBB w ru) t).2) hRuu hk htk
      rw [hR, hSu] at hsel
      obtain ⟨p, hp, q1, q2, q3, q4⟩ := plan_q hD hta
      have hq1 : (selP (SA w) (RBB w ru) (plS (SA w) (RBB w ru) t).1 (plS (SA w) (RBB w ru) t).2 (RBB w ru).ln).1 = (p : Int) := q1
      have hq2 : (selP (SA w) (RBB w ru) (plS (SA w) (RBB w ru) t).1 (plS (SA w) (RBB w ru) t).2 (RBB w ru).ln).2 = (plQ (SA w) (RBB w ru) t).2 := rfl
      rw [hq1, hq2] at hsel
      obtain ⟨u1, hu1⟩ : ∃ u1, u1 = up (up (up u 29 t (p : Int)) 30 t (((plQ (SA w) (RBB w ru) t).2 : Nat) : Int)) 1 35 ((t : Int) + 1) := ⟨_, rfl⟩
      have hF1 : FrO u u1 := by rw [hu1]; exact (FrO.u (by omega)).trans ((FrO.u (by omega)).trans (FrO.u (by omega)))
      have hRu1 : RuBL u1 ru := ⟨hru, WfT_congr (fun c a b => by rw [hF1.cell (by omega) (by omega) (by omega)]; exact hcell c (by omega) (by omega) (by omega)) hT, by rw [hF1.R, hR, hF1.cell (by decide) (by decide) (by decide), hcell 16 (by decide) (by decide) (by decide)]; exact h16, by rw [hF1.R, hR, hF1.SA, hSu]; exact hW⟩
      have h2p : 2 ^ p < 32 := Nat.lt_of_le_of_lt (Nat.pow_le_pow_right (by omega) (show p ≤ 4 by omega)) (by decide)
      have hva := varsB_n (w := u1) (ru := ru) (p := p) (known := (plS (SA w) (RBB w ru) t).1) (((plS (SA w) (RBB w ru) t).2 ||| 2 ^ p : Nat) : Int) hRu1 (by rw [hF1.R, hR]; exact hp) (by rw [hF1.R, hR]; exact q2) hk
      rw [hF1.R, hR] at hva
      have hout : f_Re_makePlan_30B u (ru : Int) (((plS (SA w) (RBB w ru) t).2 : Nat) : Int) (((plS (SA w) (RBB w ru) t).1 : Nat) : Int) (p : Int) (((plQ (SA w) (RBB w ru) t).2 : Nat) : Int) ((RBB w ru).ln : Int) = some (Sum.inr (Sum.inl (u1, (((plS (SA w) (RBB w ru) (t + 1)).2 : Nat) : Int), (((plS (SA w) (RBB w ru) (t + 1)).1 : Nat) : Int)))) := by
        have hbk : ishl 1 (p : Int) = ((2 ^ p : Nat) : Int) := bit_k (by omega)
        have e1 : up u 29 t (p : Int) 1 35 = (t : Int) := by
          have : up u 29 t (p : Int) 1 35 = u 1 35 := by simp [up]
          rw [this]; exact hP.1
        have e2 : up (up u 29 t (p : Int)) 30 t (((plQ (SA w) (RBB w ru) t).2 : Nat) : Int) 1 35 = (t : Int) := by
          have : up (up u 29 t (p : Int)) 30 t (((plQ (SA w) (RBB w ru) t).2 : Nat) : Int) 1 35 = u 1 35 := by simp [up]
          rw [this]; exact hP.1
        have i1 : wr ((wr (5 * (ru : Int))) + (p : Int)) = ((5 * ru + p : Nat) : Int) := by
          rw [wr_of (x := 5 * (ru : Int)) ⟨by omega, by omega⟩, wr_of (x := 5 * (ru : Int) + (p : Int)) ⟨by omega, by omega⟩]
          omega
        unfold f_Re_makePlan_30B
        rw [gd_t ⟨by omega, by omega⟩, Int.toNat_natCast, hcell 16 (by decide) (by decide) (by decide), h16, if_pos (Int.le_refl _), hP.1, gd_t ⟨by omega, by omega⟩, bl_s, Int.toNat_natCast, e1, gd_t ⟨by omega, by omega⟩, bl_s, Int.toNat_natCast, e2, wr_of (x := (t : Int) + 1) ⟨by omega, by omega⟩, bl_s, ← hu1, hbk, ior_n (by omega) (by omega), bl_s, i1, bl_s, hva, bnd_s, q4]
      have hstep : f_Re_makePlan_9B u (ru : Int) (((plS (SA w) (RBB w ru) t).2 : Nat) : Int) (((plS (SA w) (RBB w ru) t).1 : Nat) : Int) = some (Sum.inl (u1, (((plS (SA w) (RBB w ru) (t + 1)).2 : Nat) : Int), (((plS (SA w) (RBB w ru) (t + 1)).1 : Nat) : Int))) := by
        have hta2 : cnt (fun p => decide ((RBB w ru).fm p = 0)) (RBB w ru).ln = atoms (RBB w ru) := rfl
        unfold f_Re_makePlan_9B
        rw [hao, bnd_s, hP.1, hta2, if_neg (by omega), hsel]
        exact lp_out hout
      obtain ⟨w', p1, p2⟩ := ih (t + 1) u1 (by omega) (hF.trans hF1) ⟨by rw [hu1]; simp [up], fun i hi => by
        by_cases e : i = t
        · subst e
          refine ⟨?_, ?_⟩
          · rw [hu1, q1]; simp [up]
          · rw [hu1]; simp [up]
        · have h1 := hP.2 i (by omega)
          refine ⟨?_, ?_⟩
          · rw [← h1.1, hu1]; simp [up, e]
          · rw [← h1.2, hu1]; simp [up, e]⟩
      refine ⟨w', ?_, p2⟩
      rw [← p1]
      unfold f_Re_makePlan_9
      exact lp_step (F := fun z : (World × Int × Int) => f_Re_makePlan_9B z.1 (ru : Int) z.2.1 z.2.2) (s := (u, (((plS (SA w) (RBB w ru) t).2 : Nat) : Int), (((plS (SA w) (RBB w ru) t).1 : Nat) : Int))) hstep
  obtain ⟨w', p1, p2, p3⟩ := loop (atoms (RBB w ru)) 0 (up w 1 35 0) (by omega) (FrO.u (by omega)) ⟨by simp [up], fun i hi => absurd hi (Nat.not_lt_zero i)⟩
  refine ⟨w', ?_, p2, p3⟩
  unfold f_Re_makePlan
  rw [bl_s]
  exact p1
