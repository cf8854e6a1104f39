/-! MEANING: why not, its range; how many goals -/
theorem why_loopP {nF mm d now top r a b c0 : Nat} {L g : Nat → Nat} {wA wB : World} (hI : Inv nF mm d now top L g wA wB) (hr : r < 10) (hd : 1 ≤ wA 3 r) (ha : a < 128) (hb : b < 128) (hc0 : c0 < 128) : ∀ (j kk : Nat) (w : World) (best most : Int), kk + j = mm → QAr wA w → ((best = -1 ∧ most = -1) ∨ (0 ≤ best ∧ best < (mm : Int) ∧ 0 ≤ most ∧ most ≤ 5)) →
    ∃ w' x, f_Dm_whyNot_84 w (r : Int) (a : Int) (b : Int) (c0 : Int) best most (kk : Int) = some (w', 0, x) ∧ (x = -1 ∨ ∃ b' h' : Int, x = 10 * b' + h' ∧ 0 ≤ b' ∧ b' < (mm : Int) ∧ 0 ≤ h' ∧ h' ≤ 5) := by
  intro j
  induction j with
  | zero =>
    intro kk w best most hkk hA hbm
    have hJ := Inv_q hA (QBr.refl hI.2.2.2.2.2.2.2.2.2.2) hI
    have nA : w 14 4 = (mm : Int) := hJ.2.2.1.1.2.1
    have hm12 : mm ≤ 12 := hJ.2.2.1.1.2.2.1
    by_cases q : best = -1
    · refine ⟨w, -1, ?_, Or.inl rfl⟩
      unfold f_Dm_whyNot_84
      refine lp_out ?_
      show f_Dm_whyNot_84B w (r : Int) (a : Int) (b : Int) (c0 : Int) best most (kk : Int) = _
      unfold f_Dm_whyNot_84B
      rw [nA, if_pos (by omega), if_pos q]
    · have h4 : 0 ≤ best ∧ best < (mm : Int) ∧ 0 ≤ most ∧ most ≤ 5 := by
        rcases hbm with z | z
        · exact absurd z.1 q
        · exact z
      refine ⟨w, 10 * best + most, ?_, Or.inr ⟨best, most, rfl, h4⟩⟩
      unfold f_Dm_whyNot_84
      refine lp_out ?_
      show f_Dm_whyNot_84B w (r : Int) (a : Int) (b : Int) (c0 : Int) best most (kk : Int) = _
      unfold f_Dm_whyNot_84B
      rw [nA, if_pos (by omega), if_neg q, wr_of (x := 10 * best) ⟨by omega, by omega⟩, wr_of (x := 10 * best + most) ⟨by omega, by omega⟩]
  | succ j ih =>
    intro kk w best most hkk hA hbm
    have hJ := Inv_q hA (QBr.refl hI.2.2.2.2.2.2.2.2.2.2) hI
    have hd' : 1 ≤ w 3 r := by rw [hA.1 3 (by omega)]; exact hd
    have hmost : -1 ≤ most := by omega
    obtain ⟨w1, u1, h, p1, p2, p3, p4, p5, p6, p7⟩ := why_rule (best := best) (most := most) hJ (show kk < mm by omega) hr hd' ha hb hc0 hmost
    have nA : w 14 4 = (mm : Int) := hJ.2.2.1.1.2.1
    have hm12 : mm ≤ 12 := hJ.2.2.1.1.2.2.1
    have hrl := rule_n (w := w) (show kk < 12 by omega) (hJ.2.2.1.1.2.2.2.1 kk (by omega))
    have hkd : kdA (22 + 4 * kk) = 1 := by
      have : ∀ j, j < 12 → kdA (22 + 4 * j) = 1 := by decide +kernel
      exact this kk (by omega)
    have e134 : ∀ b' m' : Int, f_Dm_whyNot_134 w1 (r : Int) (a : Int) (b : Int) (c0 : Int) b' m' (kk : Int) = some (Sum.inl (w1, b', m', ((kk + 1 : Nat) : Int))) := fun b' m' => by
      unfold f_Dm_whyNot_134
      rw [bl_s, wr_of (x := (kk : Int) + 1) ⟨by omega, by omega⟩]
      rfl
    have bA : f_Dm_whyNot_84B w (r : Int) (a : Int) (b : Int) (c0 : Int) best most (kk : Int) = some (Sum.inl (w1, (if h ≤ most then best else (kk : Int)), (if h ≤ most then most else h), ((kk + 1 : Nat) : Int))) := by
      unfold f_Dm_whyNot_84B
      rw [nA, if_neg (by omega), hrl, bnd_s, packed_n ha hb hc0, bnd_s, gd_t hkd, p1, bnd_s]
      by_cases q : h ≤ most
      · rw [if_pos q, if_pos q, if_pos q, e134]
      · rw [if_neg q, if_neg q, if_neg q, e134]
    have hbm' : ((if h ≤ most then best else (kk : Int)) = -1 ∧ (if h ≤ most then most else h) = -1) ∨ (0 ≤ (if h ≤ most then best else (kk : Int)) ∧ (if h ≤ most then best else (kk : Int)) < (mm : Int) ∧ 0 ≤ (if h ≤ most then most else h) ∧ (if h ≤ most then most else h) ≤ 5) := by
      by_cases q : h ≤ most
      · rw [if_pos q, if_pos q]; exact hbm
      · rw [if_neg q, if_neg q]; right; exact ⟨by omega, by omega, by omega, by omega⟩
    obtain ⟨w', x, t1, t3⟩ := ih (kk + 1) w1 (if h ≤ most then best else (kk : Int)) (if h ≤ most then most else h) (by omega) (hA.trans p3) hbm'
    refine ⟨w', x, ?_, t3⟩
    unfold f_Dm_whyNot_84 at t1 ⊢
    rw [lp_step (F := fun z : (World × Int × Int × Int) => f_Dm_whyNot_84B z.1 (r : Int) (a : Int) (b : Int) (c0 : Int) z.2.1 z.2.2.1 z.2.2.2) (s := (w, best, most, (kk : Int))) bA]
    exact t1
/-- why something does not hold: the sort of answer -/
theorem why_rng {wA wB : World} (hII : II wA wB) {r : Nat} {x1 x2 x3 : Int} (hr : r < 10) (hdr : 1 ≤ wB 3 r) (ok : ∀ j, j < 3 → okC 0 (wB 3 r).toNat j (pick x1 x2 x3 j)) :
    (f_Dm_holds wA (r : Int) x1 x2 x3 = some (wA, 0, 1) ∧ f_Dm_whyNot wA (r : Int) x1 x2 x3 = some (wA, 3, 0)) ∨ (f_Dm_holds wA (r : Int) x1 x2 x3 = some (wA, 0, 0) ∧ ∃ x w', f_Dm_whyNot wA (r : Int) x1 x2 x3 = some (w', 0, x) ∧ (x = -1 ∨ ∃ b' h' : Int, x = 10 * b' + h' ∧ 0 ≤ b' ∧ b' < wA 14 4 ∧ 0 ≤ h' ∧ h' ≤ 5)) := by
  have hA : f_Sc_isDeclared wA (r : Int) = some 1 := isdecl hII hr hdr
  have hd : 1 ≤ wA 3 r := by rw [(num_AB hII).2.2.2.2.2 r hr]; exact hdr
  obtain ⟨vA, pA, -, qA⟩ := perm_ex hII hr (so := 0) (x := x1) (y := x2) (z := x3) (by omega)
  have vA1 := qA.mpr ok
  subst vA1
  obtain ⟨a, b, c0, rfl, rfl, rfl, ha, hb, hc0⟩ := ok_pk ok
  obtain ⟨nF, m, d, now, top, L, g, hI⟩ := id hII
  obtain ⟨i1, i2, i3, i4, i5, i6, i7, i8, i9, i10, i11⟩ := id hI
  obtain ⟨v, h1, h2, h3⟩ := isin_both (wB' := wB) (x := (a : Int)) (y := (b : Int)) (z := (c0 : Int)) hI i6.2.2 hr hd (fun c _ => rfl)
  have hkd := kd_ref i8 (k := now) (by omega)
  have hA0 : f_Dm_whyNot wA (r : Int) (a : Int) (b : Int) (c0 : Int) = if v = 0 then f_Dm_whyNot_84 wA (r : Int) (a : Int) (b : Int) (c0 : Int) (-1) (-1) 0 else some (wA, 3, 0) := by
    have pA : f_Sc_permits wA (r : Int) 0 (a : Int) (b : Int) (c0 : Int) = some 1 := pA
    unfold f_Dm_whyNot
    rw [hA, bnd_s, if_neg z10, pA, bnd_s, if_neg z10, present_n i8 i6.2.2 i6.1, bnd_s, gd_t hkd, h1, bnd_s]
  have hH : f_Dm_holds wA (r : Int) (a : Int) (b : Int) (c0 : Int) = some (wA, 0, v) := by
    unfold f_Dm_holds
    rw [hA, bnd_s, if_neg z10, present_n i8 i6.2.2 i6.1, bnd_s, gd_t hkd, h1, bnd_s, gd_t h3]
  have nA : wA 14 4 = (m : Int) := i3.1.2.1
  rcases h3 with z | z
  · right
    subst z
    obtain ⟨w', x, t1, t2⟩ := why_loopP hI hr hd ha hb hc0 m 0 wA (-1) (-1) (by omega) (QAr.refl i10) (Or.inl ⟨rfl, rfl⟩)
    refine ⟨hH, x, w', by rw [hA0, if_pos rfl]; exact t1, ?_⟩
    rw [nA]
    exact t2
  · left
    subst z
    exact ⟨hH, by rw [hA0, if_neg z10]⟩
/-- how many goals a permitted question asks for -/
theorem goals_rng {wA wB : World} (hII : II wA wB) {r : Nat} {x y z : Int} (hr : r < 10) (hdr : 1 ≤ wB 3 r) (hok : ∀ j, j < 3 → okC 2 (wB 3 r).toNat j (pick x y z j)) : ∃ w' v, f_Dm_goals wA (r : Int) x y z = some (w', 0, v) ∧ 1 ≤ v ∧ v ≤ 400 := by
  have hA0 : f_Sc_isDeclared wA (r : Int) = some 1 := isdecl hII hr hdr
  have hd : 1 ≤ wA 3 r := by rw [(num_AB hII).2.2.2.2.2 r hr]; exact hdr
  obtain ⟨vA, pA, -, qA⟩ := perm_ex hII hr (so := 2) (x := x) (y := y) (z := z) (by omega)
  have vA1 := qA.mpr hok
  subst vA1
  obtain ⟨nF, mm, d, now, top, L, g, hI⟩ := id hII
  obtain ⟨i1, i2, i3, i4, i5, i6, i7, i8, i9, i10, i11⟩ := id hI
  obtain ⟨⟨N, ρ, c, Lc, a1, a2, a3, a4, -⟩, -⟩ := (i9 now i6.2.2).A
  have e3 : wB 3 r = wA 3 r := (i1.2 r hr).1
  rw [e3] at hok
  have hA : CgA wA mm (g now) N ρ c Lc := ⟨⟨a1, a2, i1.1⟩, ⟨i3.1, fun i hi => (i3.2.2 i hi).2.2.2⟩, present_n i8 i6.2.2 i6.1, kd_ref i8 (by omega)⟩
  have hm3 := mny_3 i1.1.T hr
  have hlt : ∀ j, j < mny wA r → pick x y z j < 128 := fun j hj => by
    have hk := okC2.mp (hok j (by omega))
    have : ¬ (wA 3 r).toNat ≤ j := by
      unfold mny at hj
      split at hj <;> omega
    rw [if_neg this] at hk
    omega
  obtain ⟨wA', nA, gA, p1, p2, p3, p4, p5⟩ := goalA_all (x := x) (y := y) (z := z) hA i10 hr hd hlt
  refine ⟨wA', (nA : Int), ?_, ?_, by have := p4.1; omega⟩
  · have pA : f_Sc_permits wA (r : Int) 2 x y z = some 1 := pA
    unfold f_Dm_goals
    rw [hA0, bnd_s, if_neg z10, pA, bnd_s, if_neg z10]
    exact p1
  · rcases p5 with e | ⟨⟨i, hi, -⟩, -⟩
    · omega
    · omega
