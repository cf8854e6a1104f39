/-! the columns that tell a tuple: masks -/
theorem tb_hi {n i k : Nat} (h : n < 2 ^ k) (hi : k ≤ i) : n.testBit i = false := Nat.testBit_lt_two_pow (Nat.lt_of_lt_of_le h (Nat.pow_le_pow_right (by omega) hi))
theorem and_m {M r n : Nat} (hn : n < 2 ^ 21) (hr : r < 2 ^ 21) (h : ∀ i, i < 21 → r.testBit i = (n.testBit i && M.testBit i)) : n &&& M = r := by
  apply Nat.eq_of_testBit_eq
  intro i
  rw [Nat.testBit_and]
  by_cases hi : i < 21
  · rw [h i hi]
  · rw [tb_hi hn (by omega), tb_hi hr (by omega)]
    rfl
/-- the bits of the columns that tell a tuple: k = 0 plain, else how many columns -/
def kz (k n : Nat) : Nat := if k = 0 then n else if k = 1 then n % 16384 else if k = 2 then n / 16384 * 16384 + n % 128 else n / 128 * 128
def mk4 (k : Nat) : Int := if k = 0 then -1 else if k = 1 then -2080769 else if k = 2 then -16257 else -128
def mkN (k : Nat) : Nat := if k = 0 then 4294967295 else if k = 1 then 4292886527 else if k = 2 then 4294951039 else 4294967168
theorem mk_bv {k : Nat} (h : k < 4) : (ii (mk4 k)).toBitVec = BitVec.ofNat 32 (mkN k) := by
  have : ∀ k : Nat, k < 4 → (ii (mk4 k)).toBitVec = BitVec.ofNat 32 (mkN k) := by decide +kernel
  exact this k h
theorem mkN_lt {k : Nat} : mkN k < 2 ^ 32 := by unfold mkN; repeat' split
                                                all_goals omega
theorem kz_le {k n : Nat} : kz k n ≤ n := by unfold kz; repeat' split
                                             all_goals omega
theorem and_kz {k n : Nat} (hk : k < 4) (hn : n < 2 ^ 21) : n &&& mkN k = kz k n := by
  have hle : kz k n < 2 ^ 21 := Nat.lt_of_le_of_lt kz_le hn
  refine and_m hn hle (fun i hi => ?_)
  have hk4 : k = 0 ∨ k = 1 ∨ k = 2 ∨ k = 3 := by omega
  rcases hk4 with rfl | rfl | rfl | rfl
  · have h1 : ∀ i, i < 21 → (mkN 0).testBit i = true := by decide +kernel
    rw [h1 i hi, Bool.and_true]
    rfl
  · have h1 : ∀ i, i < 21 → (mkN 1).testBit i = decide (i < 14) := by decide +kernel
    rw [h1 i hi]
    show (n % 2 ^ 14).testBit i = _
    rw [Nat.testBit_mod_two_pow, Bool.and_comm]
  · have h1 : ∀ i, i < 21 → (mkN 2).testBit i = (decide (14 ≤ i) || decide (i < 7)) := by decide +kernel
    rw [h1 i hi]
    have e : kz 2 n = (n / 2 ^ 14 * 2 ^ 14 ||| n % 2 ^ 7) := by
      have := Nat.two_pow_add_eq_or_of_lt (i := 14) (b := n % 2 ^ 7) (by omega) (n / 2 ^ 14)
      rw [Nat.mul_comm (n / 2 ^ 14), ← this]
      unfold kz
      simp
      omega
    rw [e, Nat.testBit_or, Nat.testBit_mod_two_pow, Nat.mul_comm, Nat.testBit_two_pow_mul, Nat.testBit_div_two_pow]
    by_cases h2 : 14 ≤ i
    · rw [Nat.sub_add_cancel h2]
      have h3 : ¬ i < 7 := by omega
      simp [h2, h3]
    · simp [h2, Bool.and_comm]
  · have h1 : ∀ i, i < 21 → (mkN 3).testBit i = decide (7 ≤ i) := by decide +kernel
    rw [h1 i hi]
    show (n / 2 ^ 7 * 2 ^ 7).testBit i = _
    rw [Nat.mul_comm, Nat.testBit_two_pow_mul, Nat.testBit_div_two_pow]
    by_cases h2 : 7 ≤ i
    · rw [Nat.sub_add_cancel h2]
      simp [h2]
    · simp [h2]
theorem iand_mk {k n : Nat} (hk : k < 4) (hn : n < 2 ^ 21) : iand (n : Int) (mk4 k) = ((kz k n : Nat) : Int) := by
  unfold iand
  show ((ii (n : Int)).toBitVec &&& (ii (mk4 k)).toBitVec).toInt = _
  rw [bvN, mk_bv hk]
  refine bvI ?_ (Nat.lt_of_le_of_lt kz_le (by omega))
  rw [BitVec.toNat_and, BitVec.toNat_ofNat, BitVec.toNat_ofNat, Nat.mod_eq_of_lt (a := n) (by omega), Nat.mod_eq_of_lt mkN_lt, and_kz hk hn]
/-- the last column of a relation of so many columns -/
def lastc (k n : Nat) : Nat := if k = 1 then cl0 n else if k = 2 then cl1 n else cl2 n
theorem kz_pk {k a b c : Nat} (hk : k = 1 ∨ k = 2 ∨ k = 3) (ha : a < 128) (hb : b < 128) (hc : c < 128) : kz k (pk a b c) = if k = 1 then pk 0 b c else if k = 2 then pk a 0 c else pk a b 0 := by
  rcases hk with rfl | rfl | rfl
  · show pk a b c % 16384 = pk 0 b c; unfold pk; omega
  · show pk a b c / 16384 * 16384 + pk a b c % 128 = pk a 0 c; unfold pk; omega
  · show pk a b c / 128 * 128 = pk a b 0; unfold pk; omega
