/-! THE LAW over one picture: refuses -/
theorem wr_s {a : Int} (h : -2147483648 ≤ a) (h2 : a < 2147483648) : wr a = a := wr_of ⟨h, h2⟩
theorem r_1113 {z : ZQ} {m : Bool} {wB w : World} (hw : II w wB) : Ev z m wB (f_L_refuses_1113 (zs z m w) m) 1 := Ev_r hw
theorem r_1069 {z : ZQ} {m : Bool} {wB w : World} {x : Nat} (hw : II w wB) (hd : DecB wB) (hN : NT z.2.2 wB) (hx : x < 9973) : Ev z m wB (f_L_refuses_1069 (zs z m w) m (x : Int) 1) 1 := by
  obtain ⟨-, n1, -⟩ := hN
  obtain ⟨-, r1, -⟩ := num_rng hw
  unfold f_L_refuses_1069
  refine Ev_f z10 ?_
  rw [zs_n]
  by_cases q : z.2.2 1 = 0
  · exact Ev_t q (r_1113 hw)
  · refine Ev_f q ?_
    refine Ev_g q ?_
    have e1 : irem (x : Int) (z.2.2 1) = (x : Int) % z.2.2 1 := irem_n (by omega) (by omega) (by omega) (by omega)
    have p1 := Int.emod_nonneg (x : Int) q
    have p2 := Int.emod_lt_of_pos (x : Int) (show 0 < z.2.2 1 by omega)
    have w1 : wr (-1 - (x : Int)) = -1 - (x : Int) := wr_s (by omega) (by omega)
    have w2 : wr (3 + (x : Int)) = 3 + (x : Int) := wr_s (by omega) (by omega)
    rw [e1, w1]
    refine Ev_bnd (q_ord2 hw (by omega) ⟨by omega, by omega⟩ ⟨by omega, by omega⟩) hw (fun w hw => ?_)
    refine Ev_t rfl ?_
    refine Ev_g (by show (zs z m w).2.2 1 ≠ 0; rw [zs_n]; exact q) ?_
    show Ev z m wB (bnd (f_L_order (zs z m w) m (irem (x : Int) ((zs z m w).2.2 1)) (wr (3 + (x : Int)))) _) 1
    rw [zs_n, e1, w2]
    refine Ev_bnd (q_ord3 hw ⟨p1, by omega⟩ (by omega) ⟨by omega, by omega⟩ ⟨by omega, by omega⟩) hw (fun w hw => ?_)
    refine Ev_t rfl ?_
    exact r_1113 hw
theorem r_997 {z : ZQ} {m : Bool} {wB w : World} {x : Nat} {h : Nat} (hw : II w wB) (hd : DecB wB) (hN : NT z.2.2 wB) (hx : x < 9973) (hh : h < 2) : Ev z m wB (f_L_refuses_997 (zs z m w) m (x : Int) (h : Int) 1) 1 := by
  obtain ⟨T, hT⟩ := tup_ex hw hd
  have hl := len_T hT (show h < 6 by omega)
  have hw0 := hw
  unfold f_L_refuses_997
  refine Ev_f z10 ?_
  refine Ev_bnd (v_size hw0 hT (show h < 6 by omega)) hw (fun w hw => ?_)
  by_cases q : ((T h).length : Int) ≤ 0
  · exact Ev_t q (r_1069 hw hd hN hx)
  · refine Ev_f q ?_
    refine Ev_bnd (v_size hw0 hT (show h < 6 by omega)) hw (fun w hw => ?_)
    refine Ev_g (by show ((T h).length : Int) ≠ 0; omega) ?_
    have hp : x % (T h).length < (T h).length := Nat.mod_lt _ (by omega)
    have e1 : irem (x : Int) ((T h).length : Int) = ((x % (T h).length : Nat) : Int) := by
      rw [irem_n (by omega) (by omega) (by omega) (by omega), Int.natCast_emod]
    show Ev z m wB (bnd (f_L_at (zs z m w) m (h : Int) (irem (x : Int) ((T h).length : Int))) _) 1
    rw [e1]
    refine Ev_bnd (v_at hw0 hT (show h < 6 by omega) hp) hw (fun w hw => ?_)
    have hk := (hT.2.2.2.1 h (by omega) _ hp).2.1
    obtain ⟨c0, c1, c2⟩ := cols_T hk
    show Ev z m wB (bnd (f_L_whyNot (zs z m w) m (h : Int) (idiv ((T h)[x % (T h).length] : Int) 16384) (irem (idiv ((T h)[x % (T h).length] : Int) 128) 128) (irem ((T h)[x % (T h).length] : Int) 128)) _) 1
    rw [c0, c1, c2]
    refine Ev_bnd (v_whyT hw0 hd hT (show h < 6 by omega) hp) hw (fun w hw => ?_)
    refine Ev_t rfl ?_
    unfold f_L_refuses_1067
    exact r_1069 hw hd hN hx
theorem r_933 {z : ZQ} {m : Bool} {wB w : World} {x : Nat} {x4 x7 b : Int} {h : Nat} (hw : II w wB) (hd : DecB wB) (hN : NT z.2.2 wB) (hx : x < 9973) (hh : h < 2) (h4 : x4 < 0 ∨ 6 ≤ x4) (r4 : R32 x4) (h7 : x7 < 0 ∨ wB 1 14 ≤ x7) (r7 : R32 x7) (hb : b < -9 ∨ 127 < b) (rb : R32 b) : Ev z m wB (f_L_refuses_933 (zs z m w) m (x : Int) x4 x7 (h : Int) (h : Int) b) 1 := by
  have hw0 := hw
  unfold f_L_refuses_933
  refine Ev_bnd (q_goa2 hw0 hd hh hb rb) hw (fun w hw => ?_)
  refine Ev_t rfl ?_
  refine Ev_bnd (q_goa3 (b := -9) hw0 hd hh (by decide) ⟨by decide, by decide⟩) hw (fun w hw => ?_)
  refine Ev_t rfl ?_
  refine Ev_bnd (q_ord1 hw0 h7 r7 R0) hw (fun w hw => ?_)
  refine Ev_t rfl ?_
  refine Ev_bnd (q_joi1 hw0 h7 r7) hw (fun w hw => ?_)
  refine Ev_t rfl ?_
  refine Ev_bnd (q_ind1 hw0 hd h4 r4) hw (fun w hw => ?_)
  refine Ev_t rfl ?_
  exact r_997 hw hd hN hx hh
theorem r_683 {z : ZQ} {m : Bool} {wB w : World} {x : Nat} {x3 x4 x7 x8 k : Int} {h : Nat} (hw : II w wB) (hd : DecB wB) (hN : NT z.2.2 wB) (hx : x < 9973) (hh : h < 2) (h4 : x4 < 0 ∨ 6 ≤ x4) (r4 : R32 x4) (h7 : x7 < 0 ∨ wB 1 14 ≤ x7) (r7 : R32 x7) (h8 : x8 < -9 ∨ 127 < x8 ∨ x8 = -9) (r8 : R32 x8) (hk : k < 0 ∨ 4 ≤ k) (rk : R32 k) : Ev z m wB (f_L_refuses_683 (zs z m w) m (x : Int) x3 x4 x7 x8 (h : Int) (h : Int) 0 0 0 k) 1 := by
  obtain ⟨T, hT⟩ := tup_ex hw hd
  have hl := len_T hT (show h < 6 by omega)
  have h6 : h < 6 := by omega
  have hw0 := hw
  have b8 : x8 < -8 ∨ 127 < x8 := by omega
  have w4 : wr (4 + (x : Int)) = 4 + (x : Int) := wr_s (by omega) (by omega)
  have w1 : wr (-1 - (x : Int)) = -1 - (x : Int) := wr_s (by omega) (by omega)
  have w128 : wr (128 + (x : Int)) = 128 + (x : Int) := wr_s (by omega) (by omega)
  have w10 : wr (-10 - (x : Int)) = -10 - (x : Int) := wr_s (by omega) (by omega)
  unfold f_L_refuses_683
  rw [w4, w1, w128, w10]
  refine Ev_bnd (q_hat2 hw0 hd h6 R0 R0 R0 rk hk) hw (fun w hw => ?_)
  refine Ev_t rfl ?_
  refine Ev_bnd (q_ane2 hw0 hd h6 R0 R0 R0 ⟨by omega, by omega⟩ (by omega)) hw (fun w hw => ?_)
  refine Ev_t rfl ?_
  refine Ev_bnd (q_ane1 hw0 hd h4 r4 R0 R0 R0 R0) hw (fun w hw => ?_)
  refine Ev_t rfl ?_
  refine Ev_bnd (q_siz1 hw0 hd h4 r4) hw (fun w hw => ?_)
  refine Ev_t rfl ?_
  refine Ev_bnd (q_at1 hw0 hd h4 r4 R0) hw (fun w hw => ?_)
  refine Ev_t rfl ?_
  refine Ev_bnd (v_atn hw0 hT h6 ⟨by omega, by omega⟩ (Or.inl (by omega))) hw (fun w hw => ?_)
  refine Ev_t rfl ?_
  refine Ev_bnd (v_size hw0 hT h6) hw (fun w hw => ?_)
  show Ev z m wB (bnd (f_L_at (zs z m w) m (h : Int) (wr (((T h).length : Int) + (x : Int)))) _) 1
  rw [wr_s (a := ((T h).length : Int) + (x : Int)) (by omega) (by omega)]
  refine Ev_bnd (v_atn hw0 hT h6 ⟨by omega, by omega⟩ (Or.inr (by omega))) hw (fun w hw => ?_)
  refine Ev_t rfl ?_
  refine Ev_bnd (q_str1 hw0 hd h4 r4) hw (fun w hw => ?_)
  refine Ev_t rfl ?_
  refine Ev_bnd (q_way1 hw0 hd h4 r4 R0 R0 R0) hw (fun w hw => ?_)
  refine Ev_t rfl ?_
  refine Ev_bnd (q_way2 hw0 hd hh b8 r8) hw (fun w hw => ?_)
  refine Ev_t rfl ?_
  refine Ev_bnd (q_che1 hw0 hd h4 r4 R0 R0 R0) hw (fun w hw => ?_)
  refine Ev_t rfl ?_
  refine Ev_bnd (q_che2 hw0 hd hh b8 r8) hw (fun w hw => ?_)
  refine Ev_t rfl ?_
  refine Ev_bnd (q_nee1 hw0 hd h4 r4 R0 R0 R0) hw (fun w hw => ?_)
  refine Ev_t rfl ?_
  refine Ev_bnd (q_nee2 (b := 5) hw0 hd hh (by decide) ⟨by decide, by decide⟩) hw (fun w hw => ?_)
  refine Ev_t rfl ?_
  refine Ev_bnd (q_why1 hw0 hd h4 r4 R0 R0 R0) hw (fun w hw => ?_)
  refine Ev_t rfl ?_
  refine Ev_bnd (q_why2 hw0 hd hh b8 r8) hw (fun w hw => ?_)
  refine Ev_t rfl ?_
  refine Ev_bnd (q_goa1 hw0 hd h4 r4 R0 R0 R0) hw (fun w hw => ?_)
  refine Ev_t rfl ?_
  by_cases q3 : x3 = 0
  · exact Ev_t q3 (r_933 hw hd hN hx hh h4 r4 h7 r7 (by omega) ⟨by omega, by omega⟩)
  · exact Ev_f q3 (r_933 hw hd hN hx hh h4 r4 h7 r7 (by omega) ⟨by omega, by omega⟩)
theorem r_614 {z : ZQ} {m : Bool} {wB w : World} {x : Nat} {x3 x4 x7 x8 : Int} {h : Nat} (hw : II w wB) (hd : DecB wB) (hN : NT z.2.2 wB) (hx : x < 9973) (hh : h < 2) (h4 : x4 < 0 ∨ 6 ≤ x4) (r4 : R32 x4) (h7 : x7 < 0 ∨ wB 1 14 ≤ x7) (r7 : R32 x7) (h8 : x8 < -9 ∨ 127 < x8 ∨ x8 = -9) (r8 : R32 x8) : Ev z m wB (f_L_refuses_614 (zs z m w) m (x : Int) x3 x4 x7 x8 (h : Int) 1) 1 := by
  have hw0 := hw
  have b8 : x8 < -8 ∨ 127 < x8 := by omega
  have w4 : wr (4 + (x : Int)) = 4 + (x : Int) := wr_s (by omega) (by omega)
  have w1 : wr (-1 - (x : Int)) = -1 - (x : Int) := wr_s (by omega) (by omega)
  unfold f_L_refuses_614
  refine Ev_f z10 ?_
  rw [w4, w1]
  refine Ev_bnd (q_hol1 hw0 hd h4 r4 R0 R0 R0) hw (fun w hw => ?_)
  refine Ev_t rfl ?_
  refine Ev_bnd (q_hol2 hw0 hd hh b8 r8) hw (fun w hw => ?_)
  refine Ev_t rfl ?_
  refine Ev_bnd (q_hat1 (k := 9) hw0 hd h4 r4 R0 R0 R0 ⟨by decide, by decide⟩) hw (fun w hw => ?_)
  refine Ev_t rfl ?_
  by_cases q3 : x3 = 0
  · exact Ev_t q3 (r_683 hw hd hN hx hh h4 r4 h7 r7 h8 r8 (Or.inr (by omega)) ⟨by omega, by omega⟩)
  · exact Ev_f q3 (r_683 hw hd hN hx hh h4 r4 h7 r7 h8 r8 (Or.inl (by omega)) ⟨by omega, by omega⟩)
theorem r_585 {z : ZQ} {m : Bool} {wB w : World} {x : Nat} {x3 x4 x7 x8 : Int} {h : Nat} (hw : II w wB) (hd : DecB wB) (hN : NT z.2.2 wB) (hx : x < 9973) (hh : h < 2) (h4 : x4 < 0 ∨ 6 ≤ x4) (r4 : R32 x4) (h7 : x7 < 0 ∨ wB 1 14 ≤ x7) (r7 : R32 x7) (h8 : x8 < -9 ∨ 127 < x8 ∨ x8 = -9) (r8 : R32 x8) : Ev z m wB (f_L_refuses_585 (zs z m w) m (x : Int) x3 x4 x7 x8 (h : Int)) 1 := by
  obtain ⟨n0, -⟩ := id hN
  unfold f_L_refuses_585 f_L_refuses_609
  rw [zs_n]
  by_cases q : z.2.2 0 < 24
  · exact Ev_t q (r_614 hw hd hN hx hh h4 r4 h7 r7 h8 r8)
  · refine Ev_f q ?_
    refine Ev_bnd (s_fac5 hd (by omega)) hw (fun w hw => ?_)
    refine Ev_t rfl ?_
    exact r_614 hw hd hN hx hh h4 r4 h7 r7 h8 r8
theorem r_569 {z : ZQ} {m : Bool} {wB w : World} {x : Nat} {x3 x4 x7 x8 : Int} {h : Nat} (hw : II w wB) (hd : DecB wB) (hN : NT z.2.2 wB) (hx : x < 9973) (hh : h < 2) (h4 : x4 < 0 ∨ 6 ≤ x4) (r4 : R32 x4) (h7 : x7 < 0 ∨ wB 1 14 ≤ x7) (r7 : R32 x7) (h8 : x8 < -9 ∨ 127 < x8 ∨ x8 = -9) (r8 : R32 x8) : Ev z m wB (f_L_refuses_569 (zs z m w) m (x : Int) x3 x4 x7 x8 (h : Int)) 1 := by
  obtain ⟨-, -, -, -, n5⟩ := id hN
  unfold f_L_refuses_569
  rw [zs_n]
  by_cases q : z.2.2 5 < 3
  · exact Ev_t q (r_585 hw hd hN hx hh h4 r4 h7 r7 h8 r8)
  · refine Ev_f q ?_
    refine Ev_bnd (s_pas1 hd (by omega)) hw (fun w hw => ?_)
    refine Ev_t rfl ?_
    exact r_585 hw hd hN hx hh h4 r4 h7 r7 h8 r8
theorem r_554 {z : ZQ} {m : Bool} {wB w : World} {x : Nat} {x3 x4 x7 x8 : Int} {h : Nat} (hw : II w wB) (hd : DecB wB) (hN : NT z.2.2 wB) (hx : x < 9973) (hh : h < 2) (h4 : x4 < 0 ∨ 6 ≤ x4) (r4 : R32 x4) (h7 : x7 < 0 ∨ wB 1 14 ≤ x7) (r7 : R32 x7) (h8 : x8 < -9 ∨ 127 < x8 ∨ x8 = -9) (r8 : R32 x8) : Ev z m wB (f_L_refuses_554 (zs z m w) m (x : Int) x3 x4 x7 x8 (h : Int)) 1 := by
  obtain ⟨-, -, n3, -⟩ := id hN
  unfold f_L_refuses_554
  rw [zs_n]
  by_cases q : 0 < z.2.2 3
  · exact Ev_t q (r_569 hw hd hN hx hh h4 r4 h7 r7 h8 r8)
  · refine Ev_f q ?_
    refine Ev_bnd (s_den1 hd (by omega)) hw (fun w hw => ?_)
    refine Ev_t rfl ?_
    exact r_569 hw hd hN hx hh h4 r4 h7 r7 h8 r8
theorem r_533 {z : ZQ} {m : Bool} {wB w : World} {x : Nat} {x3 x4 x7 x8 : Int} {h : Nat} (hw : II w wB) (hd : DecB wB) (hN : NT z.2.2 wB) (hx : x < 9973) (hh : h < 2) (h4 : x4 < 0 ∨ 6 ≤ x4) (r4 : R32 x4) (h7 : x7 < 0 ∨ wB 1 14 ≤ x7) (r7 : R32 x7) (h8 : x8 < -9 ∨ 127 < x8 ∨ x8 = -9) (r8 : R32 x8) : Ev z m wB (f_L_refuses_533 (zs z m w) m (x : Int) x3 x4 x7 x8 (h : Int)) 1 := by
  obtain ⟨-, -, -, n4, -⟩ := id hN
  unfold f_L_refuses_533
  rw [zs_n]
  by_cases q : z.2.2 4 < 3
  · exact Ev_t q (r_554 hw hd hN hx hh h4 r4 h7 r7 h8 r8)
  · refine Ev_f q ?_
    refine Ev_bnd (s_ato4 hd (by omega)) hw (fun w hw => ?_)
    refine Ev_t rfl ?_
    exact r_554 hw hd hN hx hh h4 r4 h7 r7 h8 r8
theorem r_117 {z : ZQ} {m : Bool} {wB w : World} {x : Nat} {x3 x4 x5 x6 x7 x8 : Int} (hw : II w wB) (hd : DecB wB) (hN : NT z.2.2 wB) (hx : x < 9973) (h4 : x4 < 0 ∨ 6 ≤ x4) (r4 : R32 x4) (h5 : x5 < 0 ∨ 10 ≤ x5) (h6 : x6 < 0 ∨ wB 1 7 ≤ x6) (h7 : x7 < 0 ∨ wB 1 14 ≤ x7) (r7 : R32 x7) (h8 : x8 < -9 ∨ 127 < x8 ∨ x8 = -9) (r8 : R32 x8) : Ev z m wB (f_L_refuses_117 (zs z m w) m (x : Int) x3 x4 x5 x6 x7 x8) 1 := by
  have b8 : x8 < -8 ∨ 127 < x8 := by omega
  have w4 : wr (4 + (x : Int)) = 4 + (x : Int) := wr_s (by omega) (by omega)
  have w3 : wr (3 + (x : Int)) = 3 + (x : Int) := wr_s (by omega) (by omega)
  have w101 : wr (101 + (x : Int)) = 101 + (x : Int) := wr_s (by omega) (by omega)
  have wn : wr (-(x : Int)) = -(x : Int) := wr_s (by omega) (by omega)
  have i2 : idiv (x : Int) 2 = (x : Int) / 2 := idiv_n (by omega) (by omega) (by decide) (by decide)
  have i22 : irem ((x : Int) / 2) 2 = ((x / 2 % 2 : Nat) : Int) := by rw [irem_n (by omega) (by omega) (by decide) (by decide)]; omega
  have i6 : irem (x : Int) 6 = ((x % 6 : Nat) : Int) := by rw [irem_n (by omega) (by omega) (by decide) (by decide)]; omega
  have i100 : irem (x : Int) 100 = ((x % 100 : Nat) : Int) := by rw [irem_n (by omega) (by omega) (by decide) (by decide)]; omega
  have i4 : irem (x : Int) 4 = ((x % 4 : Nat) : Int) := by rw [irem_n (by omega) (by omega) (by decide) (by decide)]; omega
  have w100 : wr (1 + ((x % 100 : Nat) : Int)) = 1 + ((x % 100 : Nat) : Int) := wr_s (by omega) (by omega)
  obtain ⟨h, hhd⟩ : ∃ h, h = x / 2 % 2 := ⟨_, rfl⟩
  have hh : h < 2 := by omega
  obtain ⟨-, -, n3, -⟩ := id hN
  have k4 : (4 : Int) ≤ 4 + (x : Int) := by omega
  have k3 : (3 : Int) ≤ 3 + (x : Int) := by omega
  have h6x : x % 6 < 6 := by omega
  have h4x : 0 ≤ ((x % 4 : Nat) : Int) ∧ ((x % 4 : Nat) : Int) ≤ 3 := by omega
  have p100 : (1 : Int) + ((x % 100 : Nat) : Int) ≠ 0 := by omega
  unfold f_L_refuses_117
  rw [i2, i22, i6, i100, i4, w4, w3, w101, wn, w100, ← hhd]
  refine Ev_l ?_
  refine Ev_bnd (s_dec1 h5) hw (fun w hw => ?_)
  refine Ev_t rfl ?_
  refine Ev_bnd (s_dec2 k4) hw (fun w hw => ?_)
  refine Ev_t rfl ?_
  refine Ev_bnd (s_dec3 k4) hw (fun w hw => ?_)
  refine Ev_t rfl ?_
  refine Ev_bnd (s_dec4 k3) hw (fun w hw => ?_)
  refine Ev_t rfl ?_
  refine Ev_bnd (s_dec5) hw (fun w hw => ?_)
  refine Ev_t rfl ?_
  refine Ev_bnd (s_dec6 hd h6x) hw (fun w hw => ?_)
  refine Ev_t rfl ?_
  refine Ev_bnd (s_fac1 hd h4) hw (fun w hw => ?_)
  refine Ev_t rfl ?_
  refine Ev_bnd (s_fac2 hd hh b8) hw (fun w hw => ?_)
  refine Ev_t rfl ?_
  refine Ev_bnd (s_fac3 hd hh p100) hw (fun w hw => ?_)
  refine Ev_t rfl ?_
  refine Ev_bnd (s_fac4 hd hh (Or.inr (Or.inl (by omega)))) hw (fun w hw => ?_)
  refine Ev_t rfl ?_
  refine Ev_bnd (s_fac4 hd hh (Or.inl (by omega))) hw (fun w hw => ?_)
  refine Ev_t rfl ?_
  refine Ev_bnd (s_fac4 hd hh (Or.inr (Or.inr (Or.inl k4)))) hw (fun w hw => ?_)
  refine Ev_t rfl ?_
  refine Ev_bnd (s_fac4 (x5 := 1) (x6 := 2) (x7 := 1) hd hh (by decide)) hw (fun w hw => ?_)
  refine Ev_t rfl ?_
  refine Ev_bnd (s_dro1 hd h6) hw (fun w hw => ?_)
  refine Ev_t rfl ?_
  refine Ev_bnd (s_hea1 hd h4) hw (fun w hw => ?_)
  refine Ev_t rfl ?_
  refine Ev_bnd (s_hea2 hd hh b8) hw (fun w hw => ?_)
  refine Ev_t rfl ?_
  refine Ev_bnd (s_hea3 hd) hw (fun w hw => ?_)
  refine Ev_t rfl ?_
  refine Ev_bnd (s_ato1 hd h4) hw (fun w hw => ?_)
  refine Ev_t rfl ?_
  refine Ev_bnd (s_ato2 hd hh b8) hw (fun w hw => ?_)
  refine Ev_t rfl ?_
  refine Ev_bnd (s_com1 hd k4) hw (fun w hw => ?_)
  refine Ev_t rfl ?_
  refine Ev_bnd (s_com2 hd h4x b8) hw (fun w hw => ?_)
  refine Ev_t rfl ?_
  refine Ev_bnd (s_add1 hd b8) hw (fun w hw => ?_)
  refine Ev_t rfl ?_
  refine Ev_bnd (s_rem1 hd h7) hw (fun w hw => ?_)
  refine Ev_t rfl ?_
  by_cases q : z.2.2 3 < 5
  · exact Ev_t (by show (zs z m w).2.2 3 < 5; rw [zs_n]; exact q) (r_533 hw hd hN hx hh h4 r4 h7 r7 h8 r8)
  · refine Ev_f (by show ¬ (zs z m w).2.2 3 < 5; rw [zs_n]; exact q) ?_
    have n5 : 5 ≤ wB 16 18 := by omega
    refine Ev_bnd (s_com3 hd n5) hw (fun w hw => ?_)
    refine Ev_t rfl ?_
    refine Ev_bnd (s_add2 hd n5) hw (fun w hw => ?_)
    refine Ev_t rfl ?_
    refine Ev_bnd (s_ato3 (p := 0) hd (Or.inl n5)) hw (fun w hw => ?_)
    refine Ev_t rfl ?_
    exact r_533 hw hd hN hx hh h4 r4 h7 r7 h8 r8
theorem refuses_law {z : ZQ} {m : Bool} {wB : World} {x : Nat} (hw0 : II (zg z m) wB) (hd : DecB wB) (hN : NT z.2.2 wB) (hx : x < 9973) : Ev z m wB (f_L_refuses z m (x : Int)) 1 := by
  obtain ⟨w, hwz, hw⟩ : ∃ w, zs z m w = z ∧ II w wB := ⟨zg z m, zs_zg, hw0⟩
  have hk : ∀ c : Int, Ev z m wB (f_L_refuses_11 (zs z m w) m (x : Int) c) 1 := fun c => by
    obtain ⟨n0, n1, -⟩ := id hN
    obtain ⟨q0, q1, -⟩ := num_rng hw
    have i50 : irem (x : Int) 50 = ((x % 50 : Nat) : Int) := by rw [irem_n (by omega) (by omega) (by decide) (by decide)]; omega
    have i4 : irem (x : Int) 4 = ((x % 4 : Nat) : Int) := by rw [irem_n (by omega) (by omega) (by decide) (by decide)]; omega
    have a1 : wr (6 + ((x % 4 : Nat) : Int)) = 6 + ((x % 4 : Nat) : Int) := wr_s (by omega) (by omega)
    have a2 : wr (-1 - ((x % 50 : Nat) : Int)) = -1 - ((x % 50 : Nat) : Int) := wr_s (by omega) (by omega)
    have a3 : wr (10 + ((x % 50 : Nat) : Int)) = 10 + ((x % 50 : Nat) : Int) := wr_s (by omega) (by omega)
    have a4 : wr (z.2.2 0 + ((x % 50 : Nat) : Int)) = z.2.2 0 + ((x % 50 : Nat) : Int) := wr_s (by omega) (by omega)
    have a5 : wr (z.2.2 1 + ((x % 50 : Nat) : Int)) = z.2.2 1 + ((x % 50 : Nat) : Int) := wr_s (by omega) (by omega)
    have a6 : wr (128 + (x : Int)) = 128 + (x : Int) := wr_s (by omega) (by omega)
    have a7 : wr (-9 - (x : Int)) = -9 - (x : Int) := wr_s (by omega) (by omega)
    unfold f_L_refuses_11
    by_cases q : c = 0
    · refine Ev_t q ?_
      unfold f_L_refuses_31
      refine Ev_t q ?_
      unfold f_L_refuses_53
      refine Ev_t q ?_
      unfold f_L_refuses_76
      refine Ev_t q ?_
      unfold f_L_refuses_99
      refine Ev_t q ?_
      rw [zs_n, i50, i4, a1, a3, a4, a5, a6]
      exact r_117 hw hd hN hx (Or.inr (by omega)) ⟨by omega, by omega⟩ (Or.inr (by omega)) (Or.inr (by omega)) (Or.inr (by omega)) ⟨by omega, by omega⟩ (by omega) ⟨by omega, by omega⟩
    · refine Ev_f q ?_
      unfold f_L_refuses_31
      refine Ev_f q ?_
      unfold f_L_refuses_53
      refine Ev_f q ?_
      unfold f_L_refuses_76
      refine Ev_f q ?_
      unfold f_L_refuses_99
      refine Ev_f q ?_
      rw [i50, a2, a7]
      exact r_117 hw hd hN hx (Or.inl (by omega)) ⟨by omega, by omega⟩ (Or.inl (by omega)) (Or.inl (by omega)) (Or.inl (by omega)) ⟨by omega, by omega⟩ (by omega) ⟨by omega, by omega⟩
  have h2 : Ev z m wB (f_L_refuses (zs z m w) m (x : Int)) 1 := by
    unfold f_L_refuses
    by_cases q : irem (x : Int) 2 = 0
    · exact Ev_t q (hk 1)
    · exact Ev_f q (hk 0)
  rw [hwz] at h2
  exact h2
