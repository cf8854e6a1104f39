/-! THE REFERENCE: goals as columns; their list -/
def FrJ (w w' : World) : Prop := ∀ c k, c ≠ 23 → c ≠ 24 → c ≠ 25 → c ≠ 27 → c ≠ 28 → ¬ (c = 1 ∧ (k = 29 ∨ k = 30 ∨ k = 32)) → w' c k = w c k
theorem FrJ.refl {w : World} : FrJ w w := fun _ _ _ _ _ _ _ _ => rfl
theorem FrJ.trans {w w' w'' : World} (h : FrJ w w') (h' : FrJ w' w'') : FrJ w w'' := fun c k a b d e f g => (h' c k a b d e f g).trans (h c k a b d e f g)
theorem FrQ.j {w w' : World} (h : FrQ w w') : FrJ w w' := fun c k a b d _ _ f => h c k a b d (fun z => f ⟨z.1, z.2.elim (fun y => Or.inl y) (fun y => Or.inr (Or.inl y))⟩)
theorem FrJ.cell {w w' : World} (h : FrJ w w') {c : Nat} (h1 : c ≠ 1) (h2 : c < 23) : w' c = w c := funext fun k => h c k (by omega) (by omega) (by omega) (by omega) (by omega) (fun z => h1 z.1)
theorem FrJ.SA {w w' : World} (h : FrJ w w') : SA w' = SA w := SA_c5 (fun c _ _ => h.cell (by omega) (by omega))
theorem FrJ.R {w w' : World} (h : FrJ w w') (ru : Nat) : RBB w' ru = RBB w ru := RBB_congr (fun c _ _ => h.cell (by omega) (by omega)) ru
def FrH (w w' : World) : Prop := ∀ c k, c ≠ 27 → c ≠ 28 → ¬ (c = 1 ∧ k = 32) → w' c k = w c k
theorem FrH.refl {w : World} : FrH w w := fun _ _ _ _ _ => rfl
theorem FrH.j {w w' : World} (h : FrH w w') : FrJ w w' := fun c k _ _ _ a b d => h c k a b (fun z => d ⟨z.1, Or.inr (Or.inr z.2)⟩)
theorem FrH.g {w w' : World} (h : FrH w w') : GBw w w' := fun c k _ a b d => h c k a b d
def colF (w : World) (r : Nat) (f : Nat → Int) (j : Nat) : Int := if j < mny w r then (if 0 ≤ f j then f j else -9) else if (j : Int) < w 3 r then -9 else 0
theorem mny_3 {w : World} (hT : WfT w) {r : Nat} (hr : r < 10) : mny w r ≤ 3 := by
  have := (hT r hr).1
  unfold mny
  split <;> omega
theorem colF_eq {w : World} {r r' : Nat} {f f' : Nat → Int} (hT : WfT w) (hr : r < 10) (h : ∀ j, j < mny w r → f j < 128) (h' : ∀ j, j < mny w r' → f' j < 128) : genc r (mny w r) f = genc r' (mny w r') f' ↔ r = r' ∧ ∀ j, j < 3 → colF w r f j = colF w r' f' j := by
  have hm := mny_3 hT hr
  constructor
  · intro e
    have er : r = r' := by
      have a := (genc_dec (r := r) h).1
      have b := (genc_dec (r := r') h').1
      rw [← a, ← b, e]
    subst er
    refine ⟨rfl, fun j hj => ?_⟩
    unfold colF
    by_cases q : j < mny w r
    · rw [if_pos q, if_pos q]
      exact (genc_eq hm h h').mp e j q
    · rw [if_neg q, if_neg q]
  · rintro ⟨rfl, e⟩
    refine (genc_eq hm h h').mpr (fun j hj => ?_)
    have := e j (by omega)
    unfold colF at this
    rw [if_pos hj, if_pos hj] at this
    exact this
/-- the goals so far, in the reference -/
def GoB (w : World) (n : Nat) (g : Nat → Nat) : Prop := w 1 32 = (n : Int) ∧ ∀ i, i < n → ∃ r f, r < 10 ∧ 1 ≤ w 3 r ∧ (∀ j, j < mny w r → f j < 128) ∧ g i = genc r (mny w r) f ∧ w 27 i = (r : Int) ∧ ∀ j, j < 3 → w 28 (3 * i + j) = colF w r f j
theorem GoB.fr {w w' : World} {n : Nat} {g : Nat → Nat} (h : FrQ w w') (hG : GoB w n g) : GoB w' n g := by
  obtain ⟨h1, h2⟩ := hG
  have e3 : w' 3 = w 3 := h.cell (by omega) (by omega)
  have e4 : w' 4 = w 4 := h.cell (by omega) (by omega)
  have em : ∀ r, mny w' r = mny w r := fun r => by unfold mny; rw [e3, e4]
  refine ⟨by rw [h 1 32 (by decide) (by decide) (by decide) (fun z => by omega)]; exact h1, fun i hi => ?_⟩
  obtain ⟨r, f, a1, a2, a3, a4, a5, a6⟩ := h2 i hi
  refine ⟨r, f, a1, by rw [e3]; exact a2, by rw [em]; exact a3, by rw [em]; exact a4, by rw [h.cell (c := 27) (by omega) (by omega)]; exact a5, fun j hj => ?_⟩
  have : colF w' r f j = colF w r f j := by unfold colF; rw [em, e3]
  rw [this, h.cell (c := 28) (by omega) (by omega)]
  exact a6 j hj
def PB (w : World) (r : Nat) (x y z : Int) (i : Nat) : Prop := w 27 i = (r : Int) ∧ w 28 (3 * i) = x ∧ w 28 (3 * i + 1) = y ∧ w 28 (3 * i + 2) = z
theorem ask92_n {w : World} {n r : Nat} {x y z : Int} (hn : w 1 32 = (n : Int)) (hn4 : n < 400) : ((∃ i, i < n ∧ PB w r x y z i) ∧ f_Re_ask_92 w (r : Int) x y z 0 0 = some w) ∨ ((∀ i, i < n → ¬ PB w r x y z i) ∧ f_Re_ask_92 w (r : Int) x y z 0 0 = some (up (up (up (up (up w 27 n (r : Int)) 28 (3 * n) x) 28 (3 * n + 1) y) 28 (3 * n + 2) z) 1 32 ((n : Int) + 1))) := by
  have e163 : ∀ i : Nat, i < 400 → f_Re_ask_163 w (r : Int) x y z (i : Int) = some (Sum.inl (1, ((i + 1 : Nat) : Int))) := fun i hi => by
    unfold f_Re_ask_163 f_Re_ask_168
    rw [bl_s, wr_of (x := (i : Int) + 1) ⟨by omega, by omega⟩]
    rfl
  have e167 : ∀ i : Nat, i < 400 → f_Re_ask_167 w (r : Int) x y z (i : Int) = some (Sum.inl (0, ((i + 1 : Nat) : Int))) := fun i hi => by
    unfold f_Re_ask_167 f_Re_ask_168
    rw [bl_s, wr_of (x := (i : Int) + 1) ⟨by omega, by omega⟩]
    rfl
  have idx : ∀ i : Nat, i < 400 → wr (3 * (i : Int)) = ((3 * i : Nat) : Int) ∧ wr (((3 * i : Nat) : Int) + 1) = ((3 * i + 1 : Nat) : Int) ∧ wr (((3 * i : Nat) : Int) + 2) = ((3 * i + 2 : Nat) : Int) := fun i hi => by
    refine ⟨?_, ?_, ?_⟩
    · rw [wr_of (x := 3 * (i : Int)) ⟨by omega, by omega⟩]; omega
    · rw [wr_of (x := ((3 * i : Nat) : Int) + 1) ⟨by omega, by omega⟩]; omega
    · rw [wr_of (x := ((3 * i : Nat) : Int) + 2) ⟨by omega, by omega⟩]; omega
  have b1 : ∀ i : Nat, i < n → f_Re_ask_92B w (r : Int) x y z 1 (i : Int) = some (Sum.inl (1, ((i + 1 : Nat) : Int))) := fun i hi => by
    unfold f_Re_ask_92B
    rw [hn, if_neg (by omega), if_neg z10, e163 i (by omega)]
  have b0 : ∀ i : Nat, i < n → (PB w r x y z i → f_Re_ask_92B w (r : Int) x y z 0 (i : Int) = some (Sum.inl (1, ((i + 1 : Nat) : Int)))) ∧ (¬ PB w r x y z i → f_Re_ask_92B w (r : Int) x y z 0 (i : Int) = some (Sum.inl (0, ((i + 1 : Nat) : Int)))) := fun i hi => by
    obtain ⟨i0, i1, i2⟩ := idx i (by omega)
    have hb : f_Re_ask_92B w (r : Int) x y z 0 (i : Int) = if w 27 i = (r : Int) then (if w 28 (3 * i) = x then (if w 28 (3 * i + 1) = y then (if w 28 (3 * i + 2) = z then some (Sum.inl (1, ((i + 1 : Nat) : Int))) else some (Sum.inl (0, ((i + 1 : Nat) : Int)))) else some (Sum.inl (0, ((i + 1 : Nat) : Int)))) else some (Sum.inl (0, ((i + 1 : Nat) : Int)))) else some (Sum.inl (0, ((i + 1 : Nat) : Int))) := by
      have g0 : 0 ≤ ((3 * i : Nat) : Int) ∧ ((3 * i : Nat) : Int) < 1200 := ⟨by omega, by omega⟩
      have g1 : 0 ≤ ((3 * i + 1 : Nat) : Int) ∧ ((3 * i + 1 : Nat) : Int) < 1200 := ⟨by omega, by omega⟩
      have g2 : 0 ≤ ((3 * i + 2 : Nat) : Int) ∧ ((3 * i + 2 : Nat) : Int) < 1200 := ⟨by omega, by omega⟩
      unfold f_Re_ask_92B
      rw [hn, if_neg (by omega), if_pos rfl, gd_t ⟨by omega, by omega⟩, Int.toNat_natCast, i0, i1, i2, gd_t g0, gd_t g1, gd_t g2, Int.toNat_natCast, Int.toNat_natCast, Int.toNat_natCast, e163 i (by omega), e167 i (by omega)]
    constructor
    · rintro ⟨p1, p2, p3, p4⟩
      rw [hb, if_pos p1, if_pos p2, if_pos p3, if_pos p4]
    · intro hp
      rw [hb]
      by_cases p1 : w 27 i = (r : Int)
      · by_cases p2 : w 28 (3 * i) = x
        · by_cases p3 : w 28 (3 * i + 1) = y
          · by_cases p4 : w 28 (3 * i + 2) = z
            · exact absurd ⟨p1, p2, p3, p4⟩ hp
            · rw [if_pos p1, if_pos p2, if_pos p3, if_neg p4]
          · rw [if_pos p1, if_pos p2, if_neg p3]
        · rw [if_pos p1, if_neg p2]
      · rw [if_neg p1]
  have l1 : ∀ (j i : Nat), i + j = n → f_Re_ask_92 w (r : Int) x y z 1 (i : Int) = some w := by
    intro j
    induction j with
    | zero =>
      intro i hi
      unfold f_Re_ask_92
      refine lp_out ?_
      show f_Re_ask_92B w (r : Int) x y z 1 (i : Int) = _
      unfold f_Re_ask_92B
      rw [hn, if_pos (by omega), if_neg z10]
    | succ j ih =>
      intro i hi
      rw [← ih (i + 1) (by omega)]
      unfold f_Re_ask_92
      exact lp_step (F := fun q : (Int × Int) => f_Re_ask_92B w (r : Int) x y z q.1 q.2) (s := (1, (i : Int))) (b1 i (by omega))
  have l0 : ∀ (j i : Nat), i + j = n → (∀ i', i' < i → ¬ PB w r x y z i') → ((∃ i, i < n ∧ PB w r x y z i) ∧ f_Re_ask_92 w (r : Int) x y z 0 (i : Int) = some w) ∨ ((∀ i, i < n → ¬ PB w r x y z i) ∧ f_Re_ask_92 w (r : Int) x y z 0 (i : Int) = some (up (up (up (up (up w 27 n (r : Int)) 28 (3 * n) x) 28 (3 * n + 1) y) 28 (3 * n + 2) z) 1 32 ((n : Int) + 1))) := by
    intro j
    induction j with
    | zero =>
      intro i hi hno
      refine Or.inr ⟨fun i' hi' => hno i' (by omega), ?_⟩
      obtain ⟨i0, i1, i2⟩ := idx n (by omega)
      have g0 : 0 ≤ ((3 * n : Nat) : Int) ∧ ((3 * n : Nat) : Int) < 1200 := ⟨by omega, by omega⟩
      have g1 : 0 ≤ ((3 * n + 1 : Nat) : Int) ∧ ((3 * n + 1 : Nat) : Int) < 1200 := ⟨by omega, by omega⟩
      have g2 : 0 ≤ ((3 * n + 2 : Nat) : Int) ∧ ((3 * n + 2 : Nat) : Int) < 1200 := ⟨by omega, by omega⟩
      have a1 : up w 27 n (r : Int) 1 32 = (n : Int) := by rw [← hn]; simp [up]
      have a2 : up (up w 27 n (r : Int)) 28 (3 * n) x 1 32 = (n : Int) := by rw [← hn]; simp [up]
      have a3 : up (up (up w 27 n (r : Int)) 28 (3 * n) x) 28 (3 * n + 1) y 1 32 = (n : Int) := by rw [← hn]; simp [up]
      have a4 : up (up (up (up w 27 n (r : Int)) 28 (3 * n) x) 28 (3 * n + 1) y) 28 (3 * n + 2) z 1 32 = (n : Int) := by rw [← hn]; simp [up]
      unfold f_Re_ask_92
      refine lp_out ?_
      show f_Re_ask_92B w (r : Int) x y z 0 (i : Int) = _
      unfold f_Re_ask_92B
      rw [hn, if_pos (by omega), if_pos rfl, if_neg (by omega), gd_t ⟨by omega, by omega⟩, Int.toNat_natCast, bl_s, a1, i0, gd_t g0, Int.toNat_natCast, bl_s, a2, i0, i1, gd_t g1, Int.toNat_natCast, bl_s, a3, i0, i2, gd_t g2, Int.toNat_natCast, bl_s, a4, wr_of (x := (n : Int) + 1) ⟨by omega, by omega⟩, bl_s]
    | succ j ih =>
      intro i hi hno
      have st : ∀ v : Int, f_Re_ask_92B w (r : Int) x y z 0 (i : Int) = some (Sum.inl (v, ((i + 1 : Nat) : Int))) → f_Re_ask_92 w (r : Int) x y z 0 (i : Int) = f_Re_ask_92 w (r : Int) x y z v ((i + 1 : Nat) : Int) := fun v hv => by
        unfold f_Re_ask_92
        exact lp_step (F := fun q : (Int × Int) => f_Re_ask_92B w (r : Int) x y z q.1 q.2) (s := (0, (i : Int))) hv
      by_cases hp : PB w r x y z i
      · refine Or.inl ⟨⟨i, by omega, hp⟩, ?_⟩
        rw [st 1 ((b0 i (by omega)).1 hp)]
        exact l1 j (i + 1) (by omega)
      · rw [st 0 ((b0 i (by omega)).2 hp)]
        exact ih (i + 1) (by omega) (fun i' hi' => by
          by_cases e : i' = i
          · rw [e]; exact hp
          · exact hno i' (by omega))
  exact l0 n 0 (by omega) (fun i' hi' => by omega)
theorem ask_col {w : World} {r : Nat} {x y z : Int} (hr : r < 10) : f_Re_ask w (r : Int) x y z = f_Re_ask_92 w (r : Int) (if w 4 r ≠ 0 ∧ w 3 r = 1 then -9 else x) (if w 4 r ≠ 0 ∧ w 3 r = 2 then -9 else y) (if w 4 r ≠ 0 ∧ w 3 r = 3 then -9 else z) 0 0 := by
  have gr : 0 ≤ (r : Int) ∧ (r : Int) < 10 := ⟨by omega, by omega⟩
  unfold f_Re_ask f_Re_ask_14 f_Re_ask_36 f_Re_ask_37 f_Re_ask_59 f_Re_ask_60 f_Re_ask_82 f_Re_ask_84
  rw [gd_t gr, Int.toNat_natCast]
  by_cases q : w 4 r = 0
  · rw [if_pos q, if_pos rfl, if_pos rfl, if_pos rfl, if_neg (fun z => z.1 q), if_neg (fun z => z.1 q), if_neg (fun z => z.1 q)]
  · simp only [if_neg q, if_neg z10, gd_t gr]
    by_cases q1 : w 3 r = 1
    · have q2 : ¬ w 3 r = 2 := by omega
      have q3 : ¬ w 3 r = 3 := by omega
      simp only [if_pos q1, if_neg q2, if_neg q3, if_pos (And.intro q q1), if_neg (fun z : w 4 r ≠ 0 ∧ w 3 r = 2 => q2 z.2), if_neg (fun z : w 4 r ≠ 0 ∧ w 3 r = 3 => q3 z.2)]
    · by_cases q2 : w 3 r = 2
      · have q3 : ¬ w 3 r = 3 := by omega
        simp only [if_neg q1, if_pos q2, if_neg q3, if_neg (fun z : w 4 r ≠ 0 ∧ w 3 r = 1 => q1 z.2), if_pos (And.intro q q2), if_neg (fun z : w 4 r ≠ 0 ∧ w 3 r = 3 => q3 z.2)]
      · by_cases q3 : w 3 r = 3
        · simp only [if_neg q1, if_neg q2, if_pos q3, if_neg (fun z : w 4 r ≠ 0 ∧ w 3 r = 1 => q1 z.2), if_neg (fun z : w 4 r ≠ 0 ∧ w 3 r = 2 => q2 z.2), if_pos (And.intro q q3)]
        · simp only [if_neg q1, if_neg q2, if_neg q3, if_neg (fun z : w 4 r ≠ 0 ∧ w 3 r = 1 => q1 z.2), if_neg (fun z : w 4 r ≠ 0 ∧ w 3 r = 2 => q2 z.2), if_neg (fun z : w 4 r ≠ 0 ∧ w 3 r = 3 => q3 z.2)]
