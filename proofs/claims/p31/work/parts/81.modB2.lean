/-! THE REFERENCE'S MODELS: a tuple is taken in -/
theorem KE_kz {w : World} {r s m : Nat} {c : Nat → Nat} (hS : WfT w) (hr : r < 10) (hd : 1 ≤ w 3 r) (hc : c s < 2097152) (hm : m < 2097152) (hVc : Vc w r (c s)) (hVm : Vc w r m) : KE w c r ((clm m 0 : Nat) : Int) ((clm m 1 : Nat) : Int) ((clm m 2 : Nat) : Int) s ↔ kz ((SA w).kq (r : Int)) (c s) = kz ((SA w).kq (r : Int)) m := by
  have h3 := (hS r hr).1
  have d0 : ∀ n, clm n 0 = n / 16384 % 128 := fun _ => rfl
  have d1 : ∀ n, clm n 1 = n / 128 % 128 := fun _ => rfl
  have d2 : ∀ n, clm n 2 = n % 128 := fun _ => rfl
  have z : ∀ j : Nat, w 3 r ≤ (j : Int) → j < 3 → clm (c s) j = clm m j := fun j h1 h2 => by rw [hVc j h1 h2, hVm j h1 h2]
  have p0 : pick ((clm m 0 : Nat) : Int) ((clm m 1 : Nat) : Int) ((clm m 2 : Nat) : Int) 0 = ((clm m 0 : Nat) : Int) := rfl
  have p1 : pick ((clm m 0 : Nat) : Int) ((clm m 1 : Nat) : Int) ((clm m 2 : Nat) : Int) 1 = ((clm m 1 : Nat) : Int) := rfl
  have p2 : pick ((clm m 0 : Nat) : Int) ((clm m 1 : Nat) : Int) ((clm m 2 : Nat) : Int) 2 = ((clm m 2 : Nat) : Int) := rfl
  have all : KE w c r ((clm m 0 : Nat) : Int) ((clm m 1 : Nat) : Int) ((clm m 2 : Nat) : Int) s ↔ ∀ j, j < mny w r → clm (c s) j = clm m j := by
    have hmn : mny w r ≤ 3 := by unfold mny; split <;> omega
    have key : ∀ j, j < 3 → (((clm (c s) j : Nat) : Int) = pick ((clm m 0 : Nat) : Int) ((clm m 1 : Nat) : Int) ((clm m 2 : Nat) : Int) j ↔ clm (c s) j = clm m j) := fun j hj => by
      have : j = 0 ∨ j = 1 ∨ j = 2 := by omega
      rcases this with rfl | rfl | rfl
      · rw [p0]; omega
      · rw [p1]; omega
      · rw [p2]; omega
    exact ⟨fun h j hj => (key j (by omega)).mp (h j hj), fun h j hj => (key j (by omega)).mpr (h j hj)⟩
  rw [all]
  unfold SH.kq mny
  rw [SA_ki hr, SA_co hr]
  have hco : w 3 r = 1 ∨ w 3 r = 2 ∨ w 3 r = 3 := by omega
  have hk := (hS r hr).2.1
  by_cases h4 : w 4 r = 0
  · rw [if_pos h4, if_pos (by omega)]
    show _ ↔ c s = m
    constructor
    · intro h
      have e : ∀ j, j < 3 → clm (c s) j = clm m j := fun j hj => by
        by_cases q : j < (w 3 r).toNat
        · exact h j q
        · exact z j (by omega) hj
      have e0 := e 0 (by omega)
      have e1 := e 1 (by omega)
      have e2 := e 2 (by omega)
      rw [d0, d0] at e0
      rw [d1, d1] at e1
      rw [d2, d2] at e2
      omega
    · intro h j _
      rw [h]
  · rw [if_neg h4, if_neg (by omega)]
    rcases hco with h | h | h
    · have z1 := z 1 (by omega) (by omega)
      have z2 := z 2 (by omega) (by omega)
      rw [d1, d1] at z1
      rw [d2, d2] at z2
      rw [h]
      show (∀ j, j < 0 → _) ↔ c s % 16384 = m % 16384
      exact ⟨fun _ => by omega, fun _ j hj => absurd hj (by omega)⟩
    · have z2 := z 2 (by omega) (by omega)
      rw [d2, d2] at z2
      rw [h]
      show (∀ j, j < 1 → _) ↔ c s / 16384 * 16384 + c s % 128 = m / 16384 * 16384 + m % 128
      constructor
      · intro q
        have q0 := q 0 (by omega)
        rw [d0, d0] at q0
        omega
      · intro q j hj
        have : j = 0 := by omega
        subst this
        rw [d0, d0]
        omega
    · rw [h]
      show (∀ j, j < 2 → _) ↔ c s / 128 * 128 = m / 128 * 128
      constructor
      · intro q
        have q0 := q 0 (by omega)
        have q1 := q 1 (by omega)
        rw [d0, d0] at q0
        rw [d1, d1] at q1
        omega
      · intro q j hj
        have : j = 0 ∨ j = 1 := by omega
        rcases this with rfl | rfl
        · rw [d0, d0]; omega
        · rw [d1, d1]; omega
/-- two values merged -/
def mg (k x y : Nat) : Nat := if k = 1 then min x y else if k = 2 then max x y else x ||| y
theorem merged_i {k : Int} {x y : Nat} (hx : x < 2147483648) (hy : y < 2147483648) (hk : 0 ≤ k) : f_Re_merged k (x : Int) (y : Int) = some ((mg k.toNat x y : Nat) : Int) := by
  unfold f_Re_merged mg
  by_cases h1 : k = 1
  · rw [if_pos h1, if_pos (show k.toNat = 1 by omega)]
    by_cases h : x ≤ y
    · rw [if_pos (by omega), Nat.min_eq_left h]
    · rw [if_neg (by omega), Nat.min_eq_right (by omega)]
  · rw [if_neg h1, if_neg (show ¬ k.toNat = 1 by omega)]
    by_cases h2 : k = 2
    · rw [if_pos h2, if_pos (show k.toNat = 2 by omega)]
      by_cases h : y ≤ x
      · rw [if_pos (by omega), Nat.max_eq_left h]
      · rw [if_neg (by omega), Nat.max_eq_right (by omega)]
    · rw [if_neg h2, if_neg (show ¬ k.toNat = 2 by omega), ior_n hx hy]
/-- merging tuples of one key is merging their last columns -/
theorem jn_clm {k co a b : Nat} (hco : co = 1 ∨ co = 2 ∨ co = 3) (ha : a < 2097152) (hb : b < 2097152) (h : ∀ j, j < 3 → j ≠ co - 1 → clm a j = clm b j) {j : Nat} (hj : j < 3) : clm (jn k a b) j = if j = co - 1 then mg k (clm a j) (clm b j) else clm a j := by
  have d0 : ∀ n, clm n 0 = n / 16384 % 128 := fun _ => rfl
  have d1 : ∀ n, clm n 1 = n / 128 % 128 := fun _ => rfl
  have d2 : ∀ n, clm n 2 = n % 128 := fun _ => rfl
  have hle : a ≤ b ↔ clm a (co - 1) ≤ clm b (co - 1) := by
    rcases hco with rfl | rfl | rfl
    · have q1 := h 1 (by omega) (by omega)
      have q2 := h 2 (by omega) (by omega)
      rw [d1, d1] at q1
      rw [d2, d2] at q2
      show _ ↔ clm a 0 ≤ clm b 0
      rw [d0, d0]
      omega
    · have q1 := h 0 (by omega) (by omega)
      have q2 := h 2 (by omega) (by omega)
      rw [d0, d0] at q1
      rw [d2, d2] at q2
      show _ ↔ clm a 1 ≤ clm b 1
      rw [d1, d1]
      omega
    · have q1 := h 0 (by omega) (by omega)
      have q2 := h 1 (by omega) (by omega)
      rw [d0, d0] at q1
      rw [d1, d1] at q2
      show _ ↔ clm a 2 ≤ clm b 2
      rw [d2, d2]
      omega
  unfold jn mg
  by_cases e : j = co - 1
  · rw [if_pos e, e]
    split
    · rcases Nat.le_total a b with q | q
      · rw [Nat.min_eq_left q, Nat.min_eq_left (hle.mp q)]
      · by_cases q2 : a = b
        · rw [q2, Nat.min_self, Nat.min_self]
        · have q3 : ¬ a ≤ b := by omega
          rw [Nat.min_eq_right q, Nat.min_eq_right (by have := mt hle.mpr q3; omega)]
    · split
      · rcases Nat.le_total a b with q | q
        · rw [Nat.max_eq_right q, Nat.max_eq_right (hle.mp q)]
        · by_cases q2 : a = b
          · rw [q2, Nat.max_self, Nat.max_self]
          · have q3 : ¬ a ≤ b := by omega
            rw [Nat.max_eq_left q, Nat.max_eq_left (by have := mt hle.mpr q3; omega)]
      · rw [clm_or]
  · rw [if_neg e]
    have hh := h j hj e
    split
    · rcases Nat.le_total a b with q | q
      · rw [Nat.min_eq_left q]
      · rw [Nat.min_eq_right q, hh]
    · split
      · rcases Nat.le_total a b with q | q
        · rw [Nat.max_eq_right q, hh]
        · rw [Nat.max_eq_left q]
      · rw [clm_or, ← hh, Nat.or_self]
