/-! LAYER 2: pure. Numbers: bits of numbers that are not negative -/
theorem bnd_s {α β : Type} {a : α} {f : α → Option β} : bnd (some a) f = f a := rfl
theorem bl_s {α β : Type} {a : α} {f : α → Option β} : bl a f = f a := rfl
theorem gd_t {β : Type} {c : Prop} [Decidable c] {x : Option β} (h : c) : gd c x = x := if_pos h
theorem iiN (a : Nat) : ii (a : Int) = Int32.ofNat a := Int32.ofInt_eq_ofNat
theorem bvN (a : Nat) : (ii (a : Int)).toBitVec = BitVec.ofNat 32 a := by rw [iiN]; rfl
theorem bvI {b : BitVec 32} {n : Nat} (h : b.toNat = n) (hn : n < 2147483648) : b.toInt = (n : Int) := by
  rw [BitVec.toInt_eq_toNat_cond, h, if_pos (by omega)]
theorem iand_n {a b : Nat} (ha : a < 2147483648) (hb : b < 2147483648) : iand (a : Int) (b : Int) = ((a &&& b : Nat) : Int) := by
  have h : a &&& b < 2147483648 := Nat.lt_of_le_of_lt Nat.and_le_left ha
  unfold iand
  show ((ii (a : Int)).toBitVec &&& (ii (b : Int)).toBitVec).toInt = _
  rw [bvN, bvN]
  refine bvI ?_ h
  rw [BitVec.toNat_and, BitVec.toNat_ofNat, BitVec.toNat_ofNat, Nat.mod_eq_of_lt (by omega), Nat.mod_eq_of_lt (by omega)]
theorem ior_n {a b : Nat} (ha : a < 2147483648) (hb : b < 2147483648) : ior (a : Int) (b : Int) = ((a ||| b : Nat) : Int) := by
  have h : a ||| b < 2 ^ 31 := Nat.or_lt_two_pow (by omega) (by omega)
  unfold ior
  show ((ii (a : Int)).toBitVec ||| (ii (b : Int)).toBitVec).toInt = _
  rw [bvN, bvN]
  refine bvI ?_ (by omega)
  rw [BitVec.toNat_or, BitVec.toNat_ofNat, BitVec.toNat_ofNat, Nat.mod_eq_of_lt (by omega), Nat.mod_eq_of_lt (by omega)]
theorem shk : ∀ k : Nat, k < 32 → ((ii (k : Int) &&& 31).toBitVec.smod 32) = BitVec.ofNat 32 k := by decide +kernel
theorem ishl_n {a k : Nat} (hk : k < 32) (ha : a * 2 ^ k < 2147483648) : ishl (a : Int) (k : Int) = ((a * 2 ^ k : Nat) : Int) := by
  have hp : 0 < 2 ^ k := Nat.pos_of_ne_zero (by simp)
  have h1 : a < 2147483648 := Nat.lt_of_le_of_lt (Nat.le_mul_of_pos_right a hp) ha
  unfold ishl
  show ((ii (a : Int)).toBitVec <<< ((ii (k : Int) &&& 31).toBitVec.smod 32)).toInt = _
  rw [shk k hk, bvN]
  refine bvI ?_ ha
  rw [BitVec.shiftLeft_eq', BitVec.toNat_shiftLeft, BitVec.toNat_ofNat, BitVec.toNat_ofNat, Nat.mod_eq_of_lt (a := a) (by omega), Nat.mod_eq_of_lt (a := k) (by omega), Nat.shiftLeft_eq, Nat.mod_eq_of_lt (by omega)]
theorem ishr_n {a k : Nat} (hk : k < 32) (ha : a < 2147483648) : ishr (a : Int) (k : Int) = ((a / 2 ^ k : Nat) : Int) := by
  have h2 : a / 2 ^ k < 2147483648 := Nat.lt_of_le_of_lt (Nat.div_le_self _ _) ha
  unfold ishr
  show ((ii (a : Int)).toBitVec.sshiftRight' ((ii (k : Int) &&& 31).toBitVec.smod 32)).toInt = _
  rw [shk k hk, bvN]
  refine bvI ?_ h2
  have hm : (BitVec.ofNat 32 a).msb = false := by
    rw [BitVec.msb_eq_decide, BitVec.toNat_ofNat, Nat.mod_eq_of_lt (by omega)]
    simp; omega
  rw [BitVec.sshiftRight', BitVec.toNat_ofNat, Nat.mod_eq_of_lt (a := k) (by omega), BitVec.sshiftRight_eq_of_msb_false hm, BitVec.toNat_ushiftRight, BitVec.toNat_ofNat, Nat.mod_eq_of_lt (by omega), Nat.shiftRight_eq_div_pow]
/-- a packed tuple -/
def pk (a b c : Nat) : Nat := a * 16384 + b * 128 + c
theorem pk_or {a b c : Nat} (ha : a < 128) (hb : b < 128) (hc : c < 128) : (a * 2 ^ 14 ||| b * 2 ^ 7) ||| c = pk a b c := by
  have h1 : a * 2 ^ 14 ||| b * 2 ^ 7 = a * 2 ^ 14 + b * 2 ^ 7 := by
    have := Nat.two_pow_add_eq_or_of_lt (i := 14) (b := b * 2 ^ 7) (by omega) a
    rw [Nat.mul_comm a, this]
  have h2 : (a * 2 ^ 14 + b * 2 ^ 7) ||| c = (a * 2 ^ 14 + b * 2 ^ 7) + c := by
    have := Nat.two_pow_add_eq_or_of_lt (i := 7) (b := c) (by omega) (a * 2 ^ 7 + b)
    have e : 2 ^ 7 * (a * 2 ^ 7 + b) = a * 2 ^ 14 + b * 2 ^ 7 := by omega
    rw [e] at this
    exact this.symm
  rw [h1, h2]
  unfold pk
  omega
theorem packed_n {a b c : Nat} (ha : a < 128) (hb : b < 128) (hc : c < 128) : f_Dm_packed (a : Int) (b : Int) (c : Int) = some ((pk a b c : Nat) : Int) := by
  unfold f_Dm_packed
  have e1 := ishl_n (a := a) (k := 14) (by omega) (by omega)
  have e2 := ishl_n (a := b) (k := 7) (by omega) (by omega)
  have e3 := ior_n (a := a * 2 ^ 14) (b := b * 2 ^ 7) (by omega) (by omega)
  have h1 : a * 2 ^ 14 ||| b * 2 ^ 7 < 2 ^ 21 := Nat.or_lt_two_pow (by omega) (by omega)
  have e4 := ior_n (a := a * 2 ^ 14 ||| b * 2 ^ 7) (b := c) (by omega) (by omega)
  rw [show ((14 : Nat) : Int) = 14 from rfl] at e1
  rw [show ((7 : Nat) : Int) = 7 from rfl] at e2
  rw [e1, e2, e3, e4, pk_or ha hb hc]
/-- the columns of a packed tuple -/
def cl0 (n : Nat) : Nat := n / 16384 % 128
def cl1 (n : Nat) : Nat := n / 128 % 128
def cl2 (n : Nat) : Nat := n % 128
theorem cl0_pk {a b c : Nat} (ha : a < 128) (hb : b < 128) (hc : c < 128) : cl0 (pk a b c) = a := by unfold cl0 pk; omega
theorem cl1_pk {a b c : Nat} (ha : a < 128) (hb : b < 128) (hc : c < 128) : cl1 (pk a b c) = b := by unfold cl1 pk; omega
theorem cl2_pk {a b c : Nat} (ha : a < 128) (hb : b < 128) (hc : c < 128) : cl2 (pk a b c) = c := by unfold cl2 pk; omega
theorem pkq_cl {n : Nat} (h : n < 2097152) : pk (cl0 n) (cl1 n) (cl2 n) = n := by unfold cl0 cl1 cl2 pk; omega
theorem pkq_lt {a b c : Nat} (ha : a < 128) (hb : b < 128) (hc : c < 128) : pk a b c < 2097152 := by unfold pk; omega
def clm (n : Nat) (j : Nat) : Nat := if j = 0 then cl0 n else if j = 1 then cl1 n else cl2 n
theorem clm_lt {n j : Nat} : clm n j < 128 := by unfold clm cl0 cl1 cl2; split; omega; split <;> omega
theorem columnOf_n {n : Nat} (h : n < 2097152) {j : Int} (hj : 0 ≤ j ∧ j < 3) : f_Dm_columnOf (n : Int) j = some ((clm n j.toNat : Nat) : Int) := by
  unfold f_Dm_columnOf
  have hj3 : j = 0 ∨ j = 1 ∨ j = 2 := by omega
  rcases hj3 with rfl | rfl | rfl
  · have e0 : wr ((wr (2 - 0)) * 7) = ((14 : Nat) : Int) := by decide
    rw [e0, ishr_n (by omega) (by omega), show (127 : Int) = ((127 : Nat) : Int) from rfl, iand_n (by have := Nat.div_le_self n (2 ^ 14); omega) (by omega), Nat.and_two_pow_sub_one_eq_mod (n / 2 ^ 14) 7]
    rfl
  · have e0 : wr ((wr (2 - 1)) * 7) = ((7 : Nat) : Int) := by decide
    rw [e0, ishr_n (by omega) (by omega), show (127 : Int) = ((127 : Nat) : Int) from rfl, iand_n (by have := Nat.div_le_self n (2 ^ 7); omega) (by omega), Nat.and_two_pow_sub_one_eq_mod (n / 2 ^ 7) 7]
    rfl
  · have e0 : wr ((wr (2 - 2)) * 7) = ((0 : Nat) : Int) := by decide
    rw [e0, ishr_n (by omega) (by omega), show (127 : Int) = ((127 : Nat) : Int) from rfl, iand_n (by have := Nat.div_le_self n (2 ^ 0); omega) (by omega), Nat.and_two_pow_sub_one_eq_mod (n / 2 ^ 0) 7, Nat.pow_zero, Nat.div_one]
    rfl
