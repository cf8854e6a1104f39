/-! BOTH: goals as numbers; what is reached -/
def gval (k : Nat) (f : Nat → Int) (j : Nat) : Nat := if j < k ∧ 0 ≤ f j then (f j).toNat else 0
def gbit (k : Nat) (f : Nat → Int) (j : Nat) : Nat := if j < k ∧ 0 ≤ f j then 1 else 0
def gset (k : Nat) (f : Nat → Int) : Nat := gbit k f 0 + 2 * gbit k f 1 + 4 * gbit k f 2
def gcode (k : Nat) (f : Nat → Int) : Nat := pk (gval k f 0) (gval k f 1) (gval k f 2)
def genc (r k : Nat) (f : Nat → Int) : Nat := (r * 8 + gset k f) * 2097152 + gcode k f
theorem gbit_2 {k : Nat} {f : Nat → Int} {j : Nat} : gbit k f j < 2 := by unfold gbit; split <;> omega
theorem gset_8 {k : Nat} {f : Nat → Int} : gset k f < 8 := by
  have h0 := gbit_2 (k := k) (f := f) (j := 0)
  have h1 := gbit_2 (k := k) (f := f) (j := 1)
  have h2 := gbit_2 (k := k) (f := f) (j := 2)
  unfold gset
  omega
theorem gval_lt {k : Nat} {f : Nat → Int} {j : Nat} (h : ∀ j, j < k → f j < 128) : gval k f j < 128 := by
  unfold gval
  split
  · next q => have := h j q.1; omega
  · omega
theorem gcode_lt {k : Nat} {f : Nat → Int} (h : ∀ j, j < k → f j < 128) : gcode k f < 2097152 := pkq_lt (gval_lt h) (gval_lt h) (gval_lt h)
theorem gcode_clm {k : Nat} {f : Nat → Int} (h : ∀ j, j < k → f j < 128) {j : Nat} (hj : j < 3) : clm (gcode k f) j = gval k f j := by
  have : j = 0 ∨ j = 1 ∨ j = 2 := by omega
  rcases this with rfl | rfl | rfl
  · exact cl0_pk (gval_lt h) (gval_lt h) (gval_lt h)
  · exact cl1_pk (gval_lt h) (gval_lt h) (gval_lt h)
  · exact cl2_pk (gval_lt h) (gval_lt h) (gval_lt h)
theorem bits_3 : ∀ a, a < 2 → ∀ b, b < 2 → ∀ c, c < 2 → (a + 2 * b + 4 * c).testBit 0 = decide (a = 1) ∧ (a + 2 * b + 4 * c).testBit 1 = decide (b = 1) ∧ (a + 2 * b + 4 * c).testBit 2 = decide (c = 1) := by decide +kernel
theorem gset_bit {k : Nat} {f : Nat → Int} {j : Nat} (hk : k ≤ 3) : (gset k f).testBit j = decide (j < k ∧ 0 ≤ f j) := by
  have hb := bits_3 _ (gbit_2 (k := k) (f := f) (j := 0)) _ (gbit_2 (k := k) (f := f) (j := 1)) _ (gbit_2 (k := k) (f := f) (j := 2))
  have e : ∀ i, decide (gbit k f i = 1) = decide (i < k ∧ 0 ≤ f i) := fun i => by
    unfold gbit
    by_cases q : i < k ∧ 0 ≤ f i
    · rw [if_pos q]; simp [q]
    · rw [if_neg q]; simp [q]
  by_cases h3 : j < 3
  · have : j = 0 ∨ j = 1 ∨ j = 2 := by omega
    rcases this with rfl | rfl | rfl
    · rw [← e]; exact hb.1
    · rw [← e]; exact hb.2.1
    · rw [← e]; exact hb.2.2
  · have h1 : (gset k f).testBit j = false := tb_hi (k := 3) gset_8 (by omega)
    rw [h1]
    exact (decide_eq_false (fun z => by omega)).symm
theorem genc_dec {r k : Nat} {f : Nat → Int} (h : ∀ j, j < k → f j < 128) : genc r k f / 16777216 = r ∧ genc r k f / 2097152 % 8 = gset k f ∧ genc r k f % 2097152 = gcode k f := by
  have h1 := gset_8 (k := k) (f := f)
  have h2 := gcode_lt h
  unfold genc
  refine ⟨?_, ?_, ?_⟩
  · omega
  · omega
  · omega
theorem genc_eq {r k : Nat} {f f' : Nat → Int} (hk : k ≤ 3) (h : ∀ j, j < k → f j < 128) (h' : ∀ j, j < k → f' j < 128) : genc r k f = genc r k f' ↔ ∀ j, j < k → (if 0 ≤ f j then f j else -9) = (if 0 ≤ f' j then f' j else -9) := by
  constructor
  · intro e j hj
    obtain ⟨-, a1, a2⟩ := genc_dec (r := r) h
    obtain ⟨-, b1, b2⟩ := genc_dec (r := r) h'
    rw [e] at a1 a2
    have hs : gset k f = gset k f' := by rw [← a1, b1]
    have hc : gcode k f = gcode k f' := by rw [← a2, b2]
    have hb := gset_bit (f := f) (j := j) hk
    rw [hs, gset_bit hk] at hb
    have hv := gcode_clm h (show j < 3 by omega)
    rw [hc, gcode_clm h' (by omega)] at hv
    unfold gval at hv
    by_cases q : 0 ≤ f j
    · have q' : 0 ≤ f' j := by
        refine Classical.byContradiction fun z => ?_
        rw [decide_eq_false (fun y => z y.2), decide_eq_true ⟨hj, q⟩] at hb
        cases hb
      rw [if_pos ⟨hj, q'⟩, if_pos ⟨hj, q⟩] at hv
      rw [if_pos q, if_pos q']
      omega
    · have q' : ¬ 0 ≤ f' j := by
        intro z
        rw [decide_eq_false (show ¬ (j < k ∧ 0 ≤ f j) from fun y => q y.2), decide_eq_true ⟨hj, z⟩] at hb
        cases hb
      rw [if_neg q, if_neg q']
  · intro e
    have hb : ∀ j, gbit k f j = gbit k f' j ∧ gval k f j = gval k f' j := fun j => by
      unfold gbit gval
      by_cases hj : j < k
      · have := e j hj
        by_cases q : 0 ≤ f j
        · rw [if_pos q] at this
          have q' : 0 ≤ f' j := by
            refine Classical.byContradiction fun z => ?_
            rw [if_neg z] at this
            omega
          rw [if_pos q'] at this
          rw [if_pos ⟨hj, q⟩, if_pos ⟨hj, q'⟩, if_pos ⟨hj, q⟩, if_pos ⟨hj, q'⟩, this]
          exact ⟨rfl, rfl⟩
        · rw [if_neg q] at this
          have q' : ¬ 0 ≤ f' j := by
            intro z
            rw [if_pos z] at this
            omega
          rw [if_neg (fun z => q z.2), if_neg (fun z => q' z.2), if_neg (fun z => q z.2), if_neg (fun z => q' z.2)]
          exact ⟨rfl, rfl⟩
      · rw [if_neg (fun z => hj z.1), if_neg (fun z => hj z.1), if_neg (fun z => hj z.1), if_neg (fun z => hj z.1)]
        exact ⟨rfl, rfl⟩
    unfold genc gset gcode
    rw [(hb 0).1, (hb 1).1, (hb 2).1, (hb 0).2, (hb 1).2, (hb 2).2]
theorem genc_lt {r k : Nat} {f : Nat → Int} (hr : r < 10) (h : ∀ j, j < k → f j < 128) : genc r k f < 167772160 := by
  have h1 := gset_8 (k := k) (f := f)
  have h2 := gcode_lt h
  unfold genc
  omega
/-- columns that tell, by the schema -/
def mnyD (D : SH) (r : Int) : Nat := if D.ki r = 0 then D.co r else D.co r - 1
theorem mny_D {w : World} {r : Nat} (hT : WfT w) (hr : r < 10) : mny w r = mnyD (SA w) (r : Int) := by
  have h4 := (hT r hr).2.1
  unfold mny mnyD
  rw [SA_ki hr, SA_co hr]
  by_cases q : w 4 r = 0
  · rw [if_pos q, if_pos (by omega)]
  · rw [if_neg q, if_neg (by omega)]
theorem mnyD_3 {D : SH} (hD : WfD D) {r : Int} : mnyD D r ≤ 3 := by
  have := (hD r).1
  unfold mnyD
  split <;> omega
/-- the goal that a literal asks for -/
def goalQ (D : SH) (R : RU) (k : Nat) (u : Nat → Int) : Nat := genc (R.sj k).toNat (mnyD D (R.sj k)) (fun j => vl u (R.tm k j))
def AskQ (D : SH) (RR : RU → Prop) (M : MM) (g g' : Nat) : Prop := ∃ R k v' u, RR R ∧ R.tg = ((g / 16777216 : Nat) : Int) ∧ k < R.ln ∧ (R.fm k = 0 ∨ R.fm k = 1) ∧ gv R.ht (fun j => (g / 2097152 % 8).testBit j) (clm (g % 2097152)) 3 0 nov = some v' ∧ AsQ M R k v' u ∧ g' = goalQ D R k u
def Reach (A : Nat → Nat → Prop) (g0 g : Nat) : Prop := ∀ S : Nat → Prop, S g0 → (∀ a b, S a → A a b → S b) → S g
theorem Reach.refl {A : Nat → Nat → Prop} {g0 : Nat} : Reach A g0 g0 := fun _ h _ => h
theorem Reach.step {A : Nat → Nat → Prop} {g0 a b : Nat} (h : Reach A g0 a) (hab : A a b) : Reach A g0 b := fun S h0 h1 => h1 a b (h S h0 h1) hab
def Inn (n : Nat) (g : Nat → Nat) (x : Nat) : Prop := ∃ i, i < n ∧ g i = x
/-- goals so far: each once, all reached, 400 at the most -/
def GS (A : Nat → Nat → Prop) (g0 n : Nat) (g : Nat → Nat) : Prop := n ≤ 400 ∧ (∀ i j, i < n → j < n → g i = g j → j = i) ∧ ∀ i, i < n → Reach A g0 (g i)
def GX (n : Nat) (g : Nat → Nat) (n' : Nat) (g' : Nat → Nat) : Prop := n ≤ n' ∧ ∀ i, i < n → g' i = g i
theorem GX.refl {n : Nat} {g : Nat → Nat} : GX n g n g := ⟨Nat.le_refl _, fun _ _ => rfl⟩
theorem GX.trans {n n' n'' : Nat} {g g' g'' : Nat → Nat} (h : GX n g n' g') (h' : GX n' g' n'' g'') : GX n g n'' g'' := ⟨Nat.le_trans h.1 h'.1, fun i hi => (h'.2 i (Nat.lt_of_lt_of_le hi h.1)).trans (h.2 i hi)⟩
theorem Inn.x {n n' x : Nat} {g g' : Nat → Nat} (h : Inn n g x) (hx : GX n g n' g') : Inn n' g' x := by
  obtain ⟨i, hi, e⟩ := h
  exact ⟨i, Nat.lt_of_lt_of_le hi hx.1, by rw [hx.2 i hi, e]⟩
theorem GS.add {A : Nat → Nat → Prop} {g0 n x : Nat} {g : Nat → Nat} (h : GS A g0 n g) (hn : n < 400) (hx : ¬ Inn n g x) (hr : Reach A g0 x) : GS A g0 (n + 1) (upn g n x) := by
  obtain ⟨h1, h2, h3⟩ := h
  refine ⟨by omega, fun i j hi hj e => ?_, fun i hi => ?_⟩
  · by_cases ei : i = n
    · by_cases ej : j = n
      · rw [ei, ej]
      · rw [ei, upn_eq, upn_ne ej] at e
        exact absurd ⟨j, by omega, e.symm⟩ hx
    · by_cases ej : j = n
      · rw [ej, upn_eq, upn_ne ei] at e
        exact absurd ⟨i, by omega, e⟩ hx
      · rw [upn_ne ei, upn_ne ej] at e
        exact h2 i j (by omega) (by omega) e
  · by_cases ei : i = n
    · rw [ei, upn_eq]; exact hr
    · rw [upn_ne ei]; exact h3 i (by omega)
theorem GX.add {n x : Nat} {g : Nat → Nat} : GX n g (n + 1) (upn g n x) := ⟨Nat.le_succ n, fun i hi => upn_ne (by omega)⟩
theorem gin_len {n n' : Nat} {g g' : Nat → Nat} (hi : ∀ i j, i < n → j < n → g i = g j → j = i) (h : ∀ i, i < n → Inn n' g' (g i)) : n ≤ n' := by
  classical
  let φ : Nat → Nat := fun i => if q : i < n then (h i q).choose else 0
  have hφ : ∀ i, i < n → φ i < n' ∧ g' (φ i) = g i := fun i hin => by
    show (if q : i < n then (h i q).choose else 0) < n' ∧ g' (if q : i < n then (h i q).choose else 0) = g i
    rw [dif_pos hin]
    exact (h i hin).choose_spec
  have hnd : ((List.range n).map φ).Nodup := by
    rw [List.Nodup, List.pairwise_map]
    refine List.nodup_range.imp_of_mem (fun {i j} hi' hj' hne e => hne ?_)
    have h1 := hφ i (List.mem_range.mp hi')
    have h2 := hφ j (List.mem_range.mp hj')
    exact (hi i j (List.mem_range.mp hi') (List.mem_range.mp hj') (by rw [← h1.2, ← h2.2, e])).symm
  have := nodup_len n' _ hnd (fun x hx => by
    obtain ⟨i, hi', e⟩ := List.mem_map.mp hx
    rw [← e]
    exact (hφ i (List.mem_range.mp hi')).1)
  rw [List.length_map, List.length_range] at this
  exact this
theorem goals_eq {A : Nat → Nat → Prop} {g0 n n' : Nat} {g g' : Nat → Nat} (h : GS A g0 n g) (h' : GS A g0 n' g') (c : n = 400 ∨ (Inn n g g0 ∧ ∀ i, i < n → ∀ x, A (g i) x → Inn n g x)) (c' : n' = 400 ∨ (Inn n' g' g0 ∧ ∀ i, i < n' → ∀ x, A (g' i) x → Inn n' g' x)) : n = n' := by
  have sub : ∀ {n n' : Nat} {g g' : Nat → Nat}, GS A g0 n g → (Inn n' g' g0 ∧ ∀ i, i < n' → ∀ x, A (g' i) x → Inn n' g' x) → n ≤ n' := fun {n n' g g'} h c => by
    refine gin_len (g' := g') h.2.1 (fun i hi => ?_)
    exact h.2.2 i hi (fun x => Inn n' g' x) c.1 (fun a b ha hab => by
      obtain ⟨j, hj, e⟩ := ha
      rw [← e] at hab
      exact c.2 j hj b hab)
  have h1 := h.1
  have h2 := h'.1
  rcases c with c | c
  · rcases c' with c' | c'
    · omega
    · have := sub h c'
      omega
  · rcases c' with c' | c'
    · have := sub h' c
      omega
    · have := sub h c'
      have := sub h' c
      omega
