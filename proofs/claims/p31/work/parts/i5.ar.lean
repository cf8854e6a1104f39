/-! DIVISION of what isn't negative -/
theorem ii_ne {c : Int} (h : 0 < c) (h2 : c < 2147483648) : ii c ≠ -1 := by
  intro e
  have := congrArg Int32.toInt e
  rw [ii_toInt ⟨by omega, by omega⟩] at this
  have h3 : ((-1 : Int32)).toInt = -1 := rfl
  omega
theorem idiv_n {x c : Int} (hx : 0 ≤ x) (hx2 : x < 2147483648) (hc : 0 < c) (hc2 : c < 2147483648) : idiv x c = x / c := by
  unfold idiv
  rw [Int32.toInt_div_of_ne_right _ _ (ii_ne hc hc2), ii_toInt ⟨by omega, by omega⟩, ii_toInt ⟨by omega, by omega⟩, Int.tdiv_eq_ediv_of_nonneg hx]
theorem irem_n {x c : Int} (hx : 0 ≤ x) (hx2 : x < 2147483648) (hc : 0 < c) (hc2 : c < 2147483648) : irem x c = x % c := by
  unfold irem
  have hd := idiv_n hx hx2 hc hc2
  unfold idiv at hd
  have e1 : ii x / ii c = ii (x / c) := by rw [← toInt_ii (ii x / ii c), hd]
  have hq : 0 ≤ x / c := Int.ediv_nonneg hx (by omega)
  have hle : x / c ≤ x := Int.ediv_le_self c hx
  have hm1 := Int.emod_nonneg x (show c ≠ 0 by omega)
  have hm2 := Int.emod_lt_of_pos x hc
  have hs := Int.mul_ediv_add_emod x c
  have hmul : c * (x / c) = x - x % c := by omega
  rw [e1, ii_mul, Int.mul_comm, hmul, wr_of (x := x - x % c) ⟨by omega, by omega⟩, ii_sub, show x - (x - x % c) = x % c by omega, wr_of (x := x % c) ⟨by omega, by omega⟩, ii_toInt ⟨by omega, by omega⟩]
