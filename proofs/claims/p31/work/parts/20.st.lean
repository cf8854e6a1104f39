/-! THE START, and what each call keeps of two systems (begun from the rows of whole) -/
def hmL (a b c : Int) (n : Nat) : Int := if n = 0 then 0 else if n = 1 then a else if n = 2 then b else c
def w00 : World := fun _ _ => 0
theorem RW00 : RW w00 := fun _ _ => (⟨by decide, by decide⟩ : R32 0)
theorem Zn00 {n : Nat} : Zn n w00 := fun _ _ _ => rfl
theorem Rn00 {T : TT} {n : Nat} : Rn T n w00 := fun _ _ => Or.inl (Nat.zero_le _)
def wA0 : World := i_Dm_init w00
def i_Re_init (w : World) : World := (up (up (up (up (up (up (up (up (up (up (up (up (up (up (up (up (up (up (up (up (up (up (up (up (up (up (up (up (up (up w 1 2 (2 : Nat)) 1 3 (3 : Nat)) 1 4 (4 : Nat)) 1 5 (5 : Nat)) 1 6 (6 : Nat)) 1 8 (7 : Nat)) 1 9 (8 : Nat)) 1 10 (9 : Nat)) 1 11 (10 : Nat)) 1 12 (11 : Nat)) 1 13 (12 : Nat)) 1 16 (13 : Nat)) 1 17 (14 : Nat)) 1 18 (15 : Nat)) 1 19 (16 : Nat)) 1 20 (17 : Nat)) 1 21 (18 : Nat)) 1 22 (19 : Nat)) 1 23 (20 : Nat)) 1 24 (21 : Nat)) 1 25 (22 : Nat)) 1 26 (23 : Nat)) 1 27 (24 : Nat)) 1 28 (25 : Nat)) 1 31 (26 : Nat)) 1 33 (27 : Nat)) 1 34 (28 : Nat)) 1 36 (29 : Nat)) 1 37 (30 : Nat)) 14 18 (-1))
def wB0 : World := i_Re_init w00
theorem wsl_full {T : TT} {E : EE} {w : World} {n : Nat} (h : T.nn = n) : wsl (tr T n) E w = wsl T E w := by
  subst h
  unfold wsl
  apply List.map_congr_left
  intro i hi
  have hi' : i < T.nn := List.mem_range.mp hi
  have hk : (tr T T.nn).kd (i + 1) = T.kd (i + 1) := if_pos (by omega)
  have hc : cel (tr T T.nn) E w (i + 1) = cel T E w (i + 1) := by
    unfold cel
    rw [hk]
    rfl
  rw [hc]
theorem Inj_full {T : TT} {E : EE} {n : Nat} (h : T.nn = n) (hI : Inj (tr T n) E) : Inj T E := by
  subst h
  exact hI
theorem wsl_0 {T : TT} {E : EE} {w : World} : wsl (tr T 0) E w = [] := rfl
theorem Inj_0 {T : TT} {E : EE} : Inj (tr T 0) E := fun c _ h0 h1 => absurd (Nat.le_zero.mp h1) h0
def fxOk (T : TT) (w : World) (c k : Nat) : Bool := match T.fx (T.kd c) k with
  | none => true
  | some q => decide (w c k = (fxv c q : Int))
set_option maxRecDepth 100000 in
theorem fxA0 : ∀ c, c < 158 → ∀ k, k < 16 → fxOk TA wA0 c k = true := by decide +kernel
theorem Fx_of {T : TT} {w : World} {n m : Nat} (hn : T.nn < n) (hm : ∀ κ k : Nat, m ≤ k → T.fx κ k = none) (h : ∀ c, c < n → ∀ k, k < m → fxOk T w c k = true) : Fx T w := by
  intro c k q h0 h1 hq
  by_cases hk : k < m
  · have h2 := h c (by omega) k hk
    unfold fxOk at h2
    rw [hq] at h2
    exact of_decide_eq_true h2
  · rw [hm _ k (by omega)] at hq
    cases hq
theorem fxA_far (κ k : Nat) (h : 16 ≤ k) : TA.fx κ k = none := by
  show fxA κ k = none
  unfold fxA
  split <;> first | rfl | (rw [List.getD_eq_getElem?_getD, List.getElem?_eq_none (by exact Nat.le_trans (Nat.le_of_ble_eq_true rfl) h)]; rfl)
theorem FxA0 : Fx TA wA0 := Fx_of (n := 158) (by decide) fxA_far fxA0
theorem iand31 (x : Int) : 0 ≤ iand x 31 ∧ iand x 31 < 32 := by
  unfold iand
  have h1 : (ii x &&& ii 31).toBitVec.toNat ≤ 31 := by
    show ((ii x).toBitVec &&& (ii 31).toBitVec).toNat ≤ 31
    rw [BitVec.toNat_and]
    exact Nat.and_le_right
  have h2 : (ii x &&& ii 31).toInt = (((ii x &&& ii 31).toBitVec.toNat : Nat) : Int) := by
    show (ii x &&& ii 31).toBitVec.toInt = _
    rw [BitVec.toInt_eq_toNat_cond, if_pos (by omega)]
  rw [h2]
  omega
def St_declare (I : World → World → Prop) : Prop := ∀ {wA wB : World}, I wA wB → ∀ x1 x2 x3 x4 : Int, R32 x1 → R32 x2 → R32 x3 → R32 x4 → ∃ (oA : World × Nat × Int) (oB : World), f_Dm_declare wA x1 x2 x3 x4 = some oA ∧ f_Re_declare wB x1 x2 x3 x4 = some oB ∧ f_Re_thrown oB = some (hmL 1 2 3 oA.2.1) ∧ (oA.2.1 = 0 ∨ oA.2.1 = 1 ∨ oA.2.1 = 2 ∨ oA.2.1 = 3) ∧ I oA.1 oB
def St_fact (I : World → World → Prop) : Prop := ∀ {wA wB : World}, I wA wB → ∀ x1 x2 x3 x4 x5 x6 x7 : Int, R32 x1 → R32 x2 → R32 x3 → R32 x4 → R32 x5 → R32 x6 → R32 x7 → ∃ (oA : World × Nat × Int) (oB : World × Int), f_Dm_fact wA x1 x2 x3 x4 x5 x6 x7 = some oA ∧ f_Re_fact wB x1 x2 x3 x4 x5 x6 x7 = some oB ∧ f_Re_thrown oB.1 = some (hmL 1 2 3 oA.2.1) ∧ (oA.2.1 = 0 ∨ oA.2.1 = 1 ∨ oA.2.1 = 2 ∨ oA.2.1 = 3) ∧ (oA.2.1 = 0 → oA.2.2 = oB.2) ∧ I oA.1 oB.1
def St_drop (I : World → World → Prop) : Prop := ∀ {wA wB : World}, I wA wB → ∀ x1 : Int, R32 x1 → ∃ (oA : World × Nat × Int) (oB : World × Int), f_Dm_drop wA x1 = some oA ∧ f_Re_drop wB x1 = some oB ∧ f_Re_thrown oB.1 = some (hmL 1 0 2 oA.2.1) ∧ (oA.2.1 = 0 ∨ oA.2.1 = 1 ∨ oA.2.1 = 3) ∧ (oA.2.1 = 0 → oA.2.2 = oB.2) ∧ I oA.1 oB.1
def St_pass (I : World → World → Prop) : Prop := ∀ {wA wB : World}, I wA wB → ∃ (oA : World × Nat × Int) (oB : World × Int), f_Dm_pass wA = some oA ∧ f_Re_pass wB = some oB ∧ f_Re_thrown oB.1 = some (hmL 0 0 1 oA.2.1) ∧ (oA.2.1 = 0 ∨ oA.2.1 = 3) ∧ (oA.2.1 = 0 → oA.2.2 = oB.2) ∧ I oA.1 oB.1
def St_head (I : World → World → Prop) : Prop := ∀ {wA wB : World}, I wA wB → ∀ x1 x2 x3 x4 : Int, R32 x1 → R32 x2 → R32 x3 → R32 x4 → ∃ (oA : World × Nat × Int) (oB : World), f_Dm_head wA x1 x2 x3 x4 = some oA ∧ f_Re_head wB x1 x2 x3 x4 = some oB ∧ f_Re_thrown oB = some (hmL 1 2 0 oA.2.1) ∧ (oA.2.1 = 0 ∨ oA.2.1 = 1 ∨ oA.2.1 = 2) ∧ I oA.1 oB
def St_atom (I : World → World → Prop) : Prop := ∀ {wA wB : World}, I wA wB → ∀ x1 x2 x3 x4 x5 : Int, R32 x1 → R32 x2 → R32 x3 → R32 x4 → R32 x5 → ∃ (oA : World × Nat × Int) (oB : World × Int), f_Dm_atom wA x1 x2 x3 x4 x5 = some oA ∧ f_Re_atom wB x1 x2 x3 x4 x5 = some oB ∧ f_Re_thrown oB.1 = some (hmL 1 2 3 oA.2.1) ∧ (oA.2.1 = 0 ∨ oA.2.1 = 1 ∨ oA.2.1 = 2 ∨ oA.2.1 = 3) ∧ (oA.2.1 = 0 → oA.2.2 = oB.2) ∧ I oA.1 oB.1
def St_compare (I : World → World → Prop) : Prop := ∀ {wA wB : World}, I wA wB → ∀ x1 x2 x3 : Int, R32 x1 → R32 x2 → R32 x3 → ∃ (oA : World × Nat × Int) (oB : World × Int), f_Dm_compare wA x1 x2 x3 = some oA ∧ f_Re_compare wB x1 x2 x3 = some oB ∧ f_Re_thrown oB.1 = some (hmL 1 2 3 oA.2.1) ∧ (oA.2.1 = 0 ∨ oA.2.1 = 1 ∨ oA.2.1 = 2 ∨ oA.2.1 = 3) ∧ (oA.2.1 = 0 → oA.2.2 = oB.2) ∧ I oA.1 oB.1
def St_add (I : World → World → Prop) : Prop := ∀ {wA wB : World}, I wA wB → ∀ x1 x2 x3 : Int, R32 x1 → R32 x2 → R32 x3 → ∃ (oA : World × Nat × Int) (oB : World × Int), f_Dm_add wA x1 x2 x3 = some oA ∧ f_Re_add wB x1 x2 x3 = some oB ∧ f_Re_thrown oB.1 = some (hmL 0 1 2 oA.2.1) ∧ (oA.2.1 = 0 ∨ oA.2.1 = 2 ∨ oA.2.1 = 3) ∧ (oA.2.1 = 0 → oA.2.2 = oB.2) ∧ I oA.1 oB.1
def St_clear (I : World → World → Prop) : Prop := ∀ {wA wB : World}, I wA wB → ∃ oA oB : World × Int, f_Dm_clear wA = some oA ∧ f_Re_clear wB = some oB ∧ oA.2 = oB.2 ∧ I oA.1 oB.1
def St_enter (I : World → World → Prop) : Prop := ∀ {wA wB : World}, I wA wB → ∃ (oA : World × Nat × Int) (oB : World × Int), f_Dm_enter wA = some oA ∧ f_Re_enter wB = some oB ∧ f_Re_thrown oB.1 = some (hmL 0 1 2 oA.2.1) ∧ (oA.2.1 = 0 ∨ oA.2.1 = 2 ∨ oA.2.1 = 3) ∧ (oA.2.1 = 0 → oA.2.2 = oB.2) ∧ I oA.1 oB.1
def St_deny (I : World → World → Prop) : Prop := ∀ {wA wB : World}, I wA wB → ∃ (oA : World × Nat × Int) (oB : World × Int), f_Dm_deny wA = some oA ∧ f_Re_deny wB = some oB ∧ f_Re_thrown oB.1 = some (hmL 0 1 2 oA.2.1) ∧ (oA.2.1 = 0 ∨ oA.2.1 = 2 ∨ oA.2.1 = 3) ∧ (oA.2.1 = 0 → oA.2.2 = oB.2) ∧ I oA.1 oB.1
def St_remove (I : World → World → Prop) : Prop := ∀ {wA wB : World}, I wA wB → ∀ x1 : Int, R32 x1 → ∃ (oA : World × Nat × Int) (oB : World × Int), f_Dm_remove wA x1 = some oA ∧ f_Re_remove wB x1 = some oB ∧ f_Re_thrown oB.1 = some (hmL 1 0 2 oA.2.1) ∧ (oA.2.1 = 0 ∨ oA.2.1 = 1 ∨ oA.2.1 = 3) ∧ (oA.2.1 = 0 → oA.2.2 = oB.2) ∧ I oA.1 oB.1
def St_holds (I : World → World → Prop) : Prop := ∀ {wA wB : World}, I wA wB → ∀ x1 x2 x3 x4 : Int, R32 x1 → R32 x2 → R32 x3 → R32 x4 → ∃ (oA : World × Nat × Int) (oB : World × Int), f_Dm_holds wA x1 x2 x3 x4 = some oA ∧ f_Re_holds wB x1 x2 x3 x4 = some oB ∧ f_Re_thrown oB.1 = some (hmL 1 0 0 oA.2.1) ∧ (oA.2.1 = 0 ∨ oA.2.1 = 1) ∧ (oA.2.1 = 0 → oA.2.2 = oB.2) ∧ (oA.2.1 = 0 → oA.2.2 = 0 ∨ oA.2.2 = 1) ∧ I oA.1 oB.1
def St_holdsAt (I : World → World → Prop) : Prop := ∀ {wA wB : World}, I wA wB → ∀ x1 x2 x3 x4 x5 : Int, R32 x1 → R32 x2 → R32 x3 → R32 x4 → R32 x5 → ∃ (oA : World × Nat × Int) (oB : World × Int), f_Dm_holdsAt wA x1 x2 x3 x4 x5 = some oA ∧ f_Re_holdsAt wB x1 x2 x3 x4 x5 = some oB ∧ f_Re_thrown oB.1 = some (hmL 1 2 0 oA.2.1) ∧ (oA.2.1 = 0 ∨ oA.2.1 = 1 ∨ oA.2.1 = 2) ∧ (oA.2.1 = 0 → oA.2.2 = oB.2) ∧ (oA.2.1 = 0 → oA.2.2 = 0 ∨ oA.2.2 = 1) ∧ I oA.1 oB.1
def St_holdsAnew (I : World → World → Prop) : Prop := ∀ {wA wB : World}, I wA wB → ∀ x1 x2 x3 x4 x5 : Int, R32 x1 → R32 x2 → R32 x3 → R32 x4 → R32 x5 → ∃ (oA : World × Nat × Int) (oB : World × Int), f_Dm_holdsAnew wA x1 x2 x3 x4 x5 = some oA ∧ f_Re_holdsAnew wB x1 x2 x3 x4 x5 = some oB ∧ f_Re_thrown oB.1 = some (hmL 1 2 0 oA.2.1) ∧ (oA.2.1 = 0 ∨ oA.2.1 = 1 ∨ oA.2.1 = 2) ∧ (oA.2.1 = 0 → oA.2.2 = oB.2) ∧ (oA.2.1 = 0 → oA.2.2 = 0 ∨ oA.2.2 = 1) ∧ I oA.1 oB.1
def St_size (I : World → World → Prop) : Prop := ∀ {wA wB : World}, I wA wB → ∀ x1 : Int, R32 x1 → ∃ (oA : World × Nat × Int) (oB : World × Int), f_Dm_size wA x1 = some oA ∧ f_Re_size wB x1 = some oB ∧ f_Re_thrown oB.1 = some (hmL 1 0 0 oA.2.1) ∧ (oA.2.1 = 0 ∨ oA.2.1 = 1) ∧ (oA.2.1 = 0 → oA.2.2 = oB.2) ∧ I oA.1 oB.1
def St_at (I : World → World → Prop) : Prop := ∀ {wA wB : World}, I wA wB → ∀ x1 x2 : Int, R32 x1 → R32 x2 → ∃ (oA : World × Nat × Int) (oB : World × Int), f_Dm_at wA x1 x2 = some oA ∧ f_Re_at wB x1 x2 = some oB ∧ f_Re_thrown oB.1 = some (hmL 1 0 0 oA.2.1) ∧ (oA.2.1 = 0 ∨ oA.2.1 = 1) ∧ (oA.2.1 = 0 → oA.2.2 = oB.2) ∧ I oA.1 oB.1
def St_stratum (I : World → World → Prop) : Prop := ∀ {wA wB : World}, I wA wB → ∀ x1 : Int, R32 x1 → ∃ (oA : World × Nat × Int) (oB : World × Int), f_Dm_stratum wA x1 = some oA ∧ f_Re_stratum wB x1 = some oB ∧ f_Re_thrown oB.1 = some (hmL 1 0 0 oA.2.1) ∧ (oA.2.1 = 0 ∨ oA.2.1 = 1) ∧ (oA.2.1 = 0 → oA.2.2 = oB.2) ∧ I oA.1 oB.1
def St_ways (I : World → World → Prop) : Prop := ∀ {wA wB : World}, I wA wB → ∀ x1 x2 x3 x4 : Int, R32 x1 → R32 x2 → R32 x3 → R32 x4 → ∃ (oA : World × Nat × Int) (oB : World × Int), f_Dm_ways wA x1 x2 x3 x4 = some oA ∧ f_Re_ways wB x1 x2 x3 x4 = some oB ∧ f_Re_thrown oB.1 = some (hmL 1 0 0 oA.2.1) ∧ (oA.2.1 = 0 ∨ oA.2.1 = 1) ∧ (oA.2.1 = 0 → oA.2.2 = oB.2) ∧ I oA.1 oB.1
def St_cheapest (I : World → World → Prop) : Prop := ∀ {wA wB : World}, I wA wB → ∀ x1 x2 x3 x4 : Int, R32 x1 → R32 x2 → R32 x3 → R32 x4 → ∃ (oA : World × Nat × Int) (oB : World × Int), f_Dm_cheapest wA x1 x2 x3 x4 = some oA ∧ f_Re_cheapest wB x1 x2 x3 x4 = some oB ∧ f_Re_thrown oB.1 = some (hmL 1 0 0 oA.2.1) ∧ (oA.2.1 = 0 ∨ oA.2.1 = 1) ∧ (oA.2.1 = 0 → oA.2.2 = oB.2) ∧ I oA.1 oB.1
def St_needed (I : World → World → Prop) : Prop := ∀ {wA wB : World}, I wA wB → ∀ x1 x2 x3 x4 : Int, R32 x1 → R32 x2 → R32 x3 → R32 x4 → ∃ (oA : World × Nat × Int) (oB : World × Int), f_Dm_needed wA x1 x2 x3 x4 = some oA ∧ f_Re_needed wB x1 x2 x3 x4 = some oB ∧ f_Re_thrown oB.1 = some (hmL 1 0 0 oA.2.1) ∧ (oA.2.1 = 0 ∨ oA.2.1 = 1) ∧ (oA.2.1 = 0 → oA.2.2 = oB.2) ∧ I oA.1 oB.1
def St_whyNot (I : World → World → Prop) : Prop := ∀ {wA wB : World}, I wA wB → ∀ x1 x2 x3 x4 : Int, R32 x1 → R32 x2 → R32 x3 → R32 x4 → ∃ (oA : World × Nat × Int) (oB : World × Int), f_Dm_whyNot wA x1 x2 x3 x4 = some oA ∧ f_Re_whyNot wB x1 x2 x3 x4 = some oB ∧ f_Re_thrown oB.1 = some (hmL 1 2 3 oA.2.1) ∧ (oA.2.1 = 0 ∨ oA.2.1 = 1 ∨ oA.2.1 = 2 ∨ oA.2.1 = 3) ∧ (oA.2.1 = 0 → oA.2.2 = oB.2) ∧ I oA.1 oB.1
def St_broken (I : World → World → Prop) : Prop := ∀ {wA wB : World}, I wA wB → ∃ oA oB : World × Int, f_Dm_broken wA = some oA ∧ f_Re_broken wB = some oB ∧ oA.2 = oB.2 ∧ I oA.1 oB.1
def St_repair (I : World → World → Prop) : Prop := ∀ {wA wB : World}, I wA wB → ∃ oA oB : World × Int, f_Dm_repair wA = some oA ∧ f_Re_repair wB = some oB ∧ oA.2 = oB.2 ∧ I oA.1 oB.1
def St_goals (I : World → World → Prop) : Prop := ∀ {wA wB : World}, I wA wB → ∀ x1 x2 x3 x4 : Int, R32 x1 → R32 x2 → R32 x3 → R32 x4 → ∃ (oA : World × Nat × Int) (oB : World × Int), f_Dm_goals wA x1 x2 x3 x4 = some oA ∧ f_Re_goals wB x1 x2 x3 x4 = some oB ∧ f_Re_thrown oB.1 = some (hmL 1 2 0 oA.2.1) ∧ (oA.2.1 = 0 ∨ oA.2.1 = 1 ∨ oA.2.1 = 2) ∧ (oA.2.1 = 0 → oA.2.2 = oB.2) ∧ I oA.1 oB.1
def St_order (I : World → World → Prop) : Prop := ∀ {wA wB : World}, I wA wB → ∀ x1 x2 : Int, R32 x1 → R32 x2 → ∃ (oA : World × Nat × Int) (oB : World × Int), f_Dm_order wA x1 x2 = some oA ∧ f_Re_order wB x1 x2 = some oB ∧ f_Re_thrown oB.1 = some (hmL 1 0 0 oA.2.1) ∧ (oA.2.1 = 0 ∨ oA.2.1 = 1) ∧ (oA.2.1 = 0 → oA.2.2 = oB.2) ∧ I oA.1 oB.1
def St_joins (I : World → World → Prop) : Prop := ∀ {wA wB : World}, I wA wB → ∀ x1 : Int, R32 x1 → ∃ (oA : World × Nat × Int) (oB : World × Int), f_Dm_joins wA x1 = some oA ∧ f_Re_joins wB x1 = some oB ∧ f_Re_thrown oB.1 = some (hmL 1 0 0 oA.2.1) ∧ (oA.2.1 = 0 ∨ oA.2.1 = 1) ∧ (oA.2.1 = 0 → oA.2.2 = oB.2) ∧ I oA.1 oB.1
def St_indexes (I : World → World → Prop) : Prop := ∀ {wA wB : World}, I wA wB → ∀ x1 : Int, R32 x1 → ∃ (oA : World × Nat × Int) (oB : World × Int), f_Dm_indexes wA x1 = some oA ∧ f_Re_indexes wB x1 = some oB ∧ f_Re_thrown oB.1 = some (hmL 1 0 0 oA.2.1) ∧ (oA.2.1 = 0 ∨ oA.2.1 = 1) ∧ (oA.2.1 = 0 → oA.2.2 = oB.2) ∧ I oA.1 oB.1
def Sim (I : World → World → Prop) : Prop := I wA0 wB0 ∧ St_declare I ∧ St_fact I ∧ St_drop I ∧ St_pass I ∧ St_head I ∧ St_atom I ∧ St_compare I ∧ St_add I ∧ St_clear I ∧ St_enter I ∧ St_deny I ∧ St_remove I ∧ St_holds I ∧ St_holdsAt I ∧ St_holdsAnew I ∧ St_size I ∧ St_at I ∧ St_stratum I ∧ St_ways I ∧ St_cheapest I ∧ St_needed I ∧ St_whyNot I ∧ St_broken I ∧ St_repair I ∧ St_goals I ∧ St_order I ∧ St_joins I ∧ St_indexes I
