/-! THE REFERENCE'S WALK: it begins -/
/-- no variable has a value -/
def bgB (w : World) : World := fun c k => if c = 1 ∧ k = 30 then 0 else if c = 24 ∧ k < 8 then -9 else w c k
theorem beginB_n {w : World} : f_Re_begin w = some (bgB w) := by
  let g : Nat → World := fun i => fun c k => if c = 24 ∧ k < i then -9 else w c k
  have h := lp_go (F := fun z : (World × Int) => f_Re_begin_2B z.1 z.2) (fun i => (g i, (i : Int))) (bgB w) 8 (fun i hi => by
    show f_Re_begin_2B (g i) (i : Int) = some (Sum.inl (g (i + 1), ((i + 1 : Nat) : Int)))
    unfold f_Re_begin_2B
    rw [if_neg (by omega), gd_t ⟨by omega, by omega⟩, bl_s, bl_s, wr_of (x := (i : Int) + 1) ⟨by omega, by omega⟩, Int.toNat_natCast]
    have e : up (g i) 24 i (-9) = g (i + 1) := by
      funext c k
      show (if c = 24 ∧ k = i then -9 else if c = 24 ∧ k < i then -9 else w c k) = if c = 24 ∧ k < i + 1 then -9 else w c k
      by_cases q : c = 24
      · by_cases q1 : k = i
        · rw [if_pos ⟨q, q1⟩, if_pos ⟨q, by omega⟩]
        · by_cases q2 : k < i
          · rw [if_neg (fun z => q1 z.2), if_pos ⟨q, q2⟩, if_pos ⟨q, by omega⟩]
          · rw [if_neg (fun z => q1 z.2), if_neg (fun z => q2 z.2), if_neg (fun z => q2 (by omega))]
      · rw [if_neg (fun z => q z.1), if_neg (fun z => q z.1), if_neg (fun z => q z.1)]
    rw [e]
    rfl) (by
    show f_Re_begin_2B (g 8) ((8 : Nat) : Int) = _
    unfold f_Re_begin_2B
    rw [if_pos (by decide), bl_s]
    rfl)
  have e0 : g 0 = w := by
    funext c k
    show (if c = 24 ∧ k < 0 then (-9 : Int) else w c k) = w c k
    rw [if_neg (fun z => absurd z.2 (Nat.not_lt_zero k))]
  have h : lp (fun z : (World × Int) => f_Re_begin_2B z.1 z.2) (g 0, ((0 : Nat) : Int)) = some (bgB w) := h
  rw [e0] at h
  unfold f_Re_begin f_Re_begin_2
  exact h
theorem bgB_fr {w : World} {c : Nat} (h1 : c ≠ 1) (h2 : c ≠ 24) : bgB w c = w c := by
  funext k
  show (if c = 1 ∧ k = 30 then (0 : Int) else if c = 24 ∧ k < 8 then -9 else w c k) = w c k
  rw [if_neg (fun z => h1 z.1), if_neg (fun z => h2 z.1)]
theorem bgB_24 {w : World} {v : Nat} : bgB w 24 v = if v < 8 then -9 else w 24 v := by
  show (if 24 = 1 ∧ v = 30 then (0 : Int) else if 24 = 24 ∧ v < 8 then -9 else w 24 v) = _
  rw [if_neg (fun z => absurd z.1 (by decide))]
  by_cases q : v < 8
  · rw [if_pos ⟨rfl, q⟩, if_pos q]
  · rw [if_neg (fun z => q z.2), if_neg q]
theorem bgB_1 {w : World} {k : Nat} : bgB w 1 k = if k = 30 then 0 else w 1 k := by
  show (if 1 = 1 ∧ k = 30 then (0 : Int) else if 1 = 24 ∧ k < 8 then -9 else w 1 k) = _
  by_cases q : k = 30
  · rw [if_pos ⟨rfl, q⟩, if_pos q]
  · rw [if_neg (fun z => q z.2), if_neg (fun z => absurd z.1 (by decide)), if_neg q]
theorem bgB_VB {w : World} (h : VB w) : VB (bgB w) := by
  intro v hv
  rw [bgB_24] at hv
  rw [bgB_fr (by decide) (by decide)]
  by_cases q : v < 8
  · rw [if_pos q] at hv
    exact absurd rfl hv
  · rw [if_neg q] at hv
    exact h v hv
/-- no values at first, as in the class -/
theorem bgB_vB {w : World} {v : Nat} (hv : v < 8) : vB (bgB w) v = -1 := by
  show (if bgB w 24 v = -9 then (-1 : Int) else bgB w 23 v) = -1
  rw [bgB_24, if_pos hv, if_pos rfl]
