/-! BOTH: why not, all rules -/
theorem why_loop {nF mm d now top r a b c0 : Nat} {L g : Nat → Nat} {wA wB : World} (hI : Inv nF mm d now top L g wA wB) (hr : r < 10) (hd : 1 ≤ wA 3 r) (ha : a < 128) (hb : b < 128) (hc0 : c0 < 128) : ∀ (j kk : Nat) (w u : World) (best most : Int), kk + j = mm → QAr wA w → QBr wB u → u 1 0 = wB 1 0 → -1 ≤ most →
    ∃ w' u' x, f_Dm_whyNot_84 w (r : Int) (a : Int) (b : Int) (c0 : Int) best most (kk : Int) = some (w', 0, x) ∧ f_Re_whyNot_88 u (r : Int) (a : Int) (b : Int) (c0 : Int) best most (kk : Int) = some (u', x) ∧ QAr wA w' ∧ QBr wB u' ∧ u' 1 0 = wB 1 0 := by
  intro j
  induction j with
  | zero =>
    intro kk w u best most hkk hA hB hz hmost
    have hJ := Inv_q hA hB hI
    have nA : w 14 4 = (mm : Int) := hJ.2.2.1.1.2.1
    have nB : u 1 14 = (mm : Int) := hJ.2.2.1.2.1.1
    by_cases q : best = -1
    · refine ⟨w, u, -1, ?_, ?_, hA, hB, hz⟩
      · unfold f_Dm_whyNot_84
        refine lp_out ?_
        show f_Dm_whyNot_84B w (r : Int) (a : Int) (b : Int) (c0 : Int) best most (kk : Int) = _
        unfold f_Dm_whyNot_84B
        rw [nA, if_pos (by omega), if_pos q]
      · unfold f_Re_whyNot_88
        refine lp_out ?_
        show f_Re_whyNot_88B u (r : Int) (a : Int) (b : Int) (c0 : Int) best most (kk : Int) = _
        unfold f_Re_whyNot_88B
        rw [nB, if_pos (by omega), if_pos q]
    · refine ⟨w, u, wr ((wr (10 * best)) + most), ?_, ?_, hA, hB, hz⟩
      · unfold f_Dm_whyNot_84
        refine lp_out ?_
        show f_Dm_whyNot_84B w (r : Int) (a : Int) (b : Int) (c0 : Int) best most (kk : Int) = _
        unfold f_Dm_whyNot_84B
        rw [nA, if_pos (by omega), if_neg q]
      · unfold f_Re_whyNot_88
        refine lp_out ?_
        show f_Re_whyNot_88B u (r : Int) (a : Int) (b : Int) (c0 : Int) best most (kk : Int) = _
        unfold f_Re_whyNot_88B
        rw [nB, if_pos (by omega), if_neg q]
  | succ j ih =>
    intro kk w u best most hkk hA hB hz hmost
    have hJ := Inv_q hA hB hI
    have hd' : 1 ≤ w 3 r := by rw [hA.1 3 (by omega)]; exact hd
    obtain ⟨w1, u1, h, p1, p2, p3, p4, p5, p6, p7⟩ := why_rule (best := best) (most := most) hJ (show kk < mm by omega) hr hd' ha hb hc0 hmost
    have nA : w 14 4 = (mm : Int) := hJ.2.2.1.1.2.1
    have hm12 : mm ≤ 12 := hJ.2.2.1.1.2.2.1
    have hrl := rule_n (w := w) (show kk < 12 by omega) (hJ.2.2.1.1.2.2.2.1 kk (by omega))
    have hkd : kdA (22 + 4 * kk) = 1 := by
      have : ∀ j, j < 12 → kdA (22 + 4 * j) = 1 := by decide +kernel
      exact this kk (by omega)
    have e134 : ∀ b' m' : Int, f_Dm_whyNot_134 w1 (r : Int) (a : Int) (b : Int) (c0 : Int) b' m' (kk : Int) = some (Sum.inl (w1, b', m', ((kk + 1 : Nat) : Int))) := fun b' m' => by
      unfold f_Dm_whyNot_134
      rw [bl_s, wr_of (x := (kk : Int) + 1) ⟨by omega, by omega⟩]
      rfl
    have bA : f_Dm_whyNot_84B w (r : Int) (a : Int) (b : Int) (c0 : Int) best most (kk : Int) = some (Sum.inl (w1, (if h ≤ most then best else (kk : Int)), (if h ≤ most then most else h), ((kk + 1 : Nat) : Int))) := by
      unfold f_Dm_whyNot_84B
      rw [nA, if_neg (by omega), hrl, bnd_s, packed_n ha hb hc0, bnd_s, gd_t hkd, p1, bnd_s]
      by_cases q : h ≤ most
      · rw [if_pos q, if_pos q, if_pos q, e134]
      · rw [if_neg q, if_neg q, if_neg q, e134]
    obtain ⟨w', u', x, t1, t2, t3⟩ := ih (kk + 1) w1 u1 (if h ≤ most then best else (kk : Int)) (if h ≤ most then most else h) (by omega) (hA.trans p3) (hB.trans p4) (p5.trans hz) (by split <;> omega)
    refine ⟨w', u', x, ?_, ?_, t3⟩
    · unfold f_Dm_whyNot_84 at t1 ⊢
      rw [lp_step (F := fun z : (World × Int × Int × Int) => f_Dm_whyNot_84B z.1 (r : Int) (a : Int) (b : Int) (c0 : Int) z.2.1 z.2.2.1 z.2.2.2) (s := (w, best, most, (kk : Int))) bA]
      exact t1
    · unfold f_Re_whyNot_88 at t2 ⊢
      rw [lp_step (F := fun z : (World × Int × Int × Int) => f_Re_whyNot_88B z.1 (r : Int) (a : Int) (b : Int) (c0 : Int) z.2.1 z.2.2.1 z.2.2.2) (s := (u, best, most, (kk : Int))) p2]
      exact t2
theorem st_whyNot : St_whyNot II := by
  intro wA wB hII x1 x2 x3 x4 _ _ _ _
  obtain ⟨nF, m, d, now, top, L, g, hI⟩ := id hII
  obtain ⟨i1, i2, i3, i4, i5, i6, i7, i8, i9, i10, i11⟩ := id hI
  rcases decl_both i1 x1 with ⟨r, rfl, hr, hd, hA, hB⟩ | ⟨-, hA, hB⟩
  · obtain ⟨vA, pA, qA⟩ := permits_n (so := 0) (x := x2) (y := x3) (z := x4) i1.1 hr (by omega)
    obtain ⟨vB, pB, qB⟩ := areValues_n (fr := 0) (so := 0) (x := x2) (y := x3) (z := x4) i1.T hr (Or.inl ⟨rfl, rfl⟩)
    have e3 : wB 3 r = wA 3 r := (i1.2 r hr).1
    rw [e3] at qB
    by_cases ok : ∀ j, j < 3 → okC 0 (wA 3 r).toNat j (pick x2 x3 x4 j)
    · have vA1 : vA = 1 := by
        rcases qA with ⟨z, -⟩ | ⟨-, z⟩
        · exact z
        · exact absurd ok z
      have vB1 : vB = 1 := by
        rcases qB with ⟨z, -⟩ | ⟨-, z⟩
        · exact z
        · exact absurd ok z
      obtain ⟨a, b, c0, rfl, rfl, rfl, ha, hb, hc0⟩ := ok_pk ok
      obtain ⟨v, h1, h2, h3⟩ := isin_both (wB' := wB) (x := (a : Int)) (y := (b : Int)) (z := (c0 : Int)) hI i6.2.2 hr hd (fun c _ => rfl)
      have hA0 : f_Dm_whyNot wA (r : Int) (a : Int) (b : Int) (c0 : Int) = if v = 0 then f_Dm_whyNot_84 wA (r : Int) (a : Int) (b : Int) (c0 : Int) (-1) (-1) 0 else some (wA, 3, 0) := by
        have pA : f_Sc_permits wA (r : Int) 0 (a : Int) (b : Int) (c0 : Int) = some vA := pA
        unfold f_Dm_whyNot
        rw [hA, bnd_s, if_neg z10, pA, bnd_s, vA1, if_neg z10, present_n i8 i6.2.2 i6.1, bnd_s, gd_t (kd_ref i8 (by omega)), h1, bnd_s]
      have hB0 : f_Re_whyNot wB (r : Int) (a : Int) (b : Int) (c0 : Int) = if v = 0 then f_Re_whyNot_71 wB (r : Int) (a : Int) (b : Int) (c0 : Int) 0 else f_Re_whyNot_71 wB (r : Int) (a : Int) (b : Int) (c0 : Int) 3 := by
        unfold f_Re_whyNot f_Re_whyNot_26
        rw [hB, bnd_s, if_neg z10, pB, bnd_s, vB1, if_neg z10, bnd_s, if_neg z10, if_neg z10, i6.2.1, h2, bnd_s]
      rcases h3 with z | z
      · have hI0 : Inv nF m d now top L g wA (up wB 1 0 0) := Inv_up10 hI
        obtain ⟨w', u', x, t1, t2, t3, t4, t5⟩ := why_loop hI0 hr hd ha hb hc0 m 0 wA (up wB 1 0 0) (-1) (-1) (by omega) (QAr.refl i10) (QBr.refl hI0.2.2.2.2.2.2.2.2.2.2) rfl (by omega)
        refine ⟨(w', 0, x), (u', x), ?_, ?_, ?_, Or.inl rfl, fun _ => rfl, nF, m, d, now, top, L, g, Inv_q t3 t4 hI0⟩
        · rw [hA0, if_pos z]; exact t1
        · rw [hB0, if_pos z]
          unfold f_Re_whyNot_71
          rw [refused_n, bnd_s]
          show (if (if (0 : Int) = 0 then (0 : Int) else 1) = 0 then f_Re_whyNot_88 (up wB 1 0 0) (r : Int) (a : Int) (b : Int) (c0 : Int) (-1) (-1) 0 else _) = _
          rw [if_pos (if_pos rfl)]
          exact t2
        · unfold f_Re_thrown
          show some (u' 1 0) = _
          rw [t5]
          simp [up]
          rfl
      · refine ⟨(wA, 3, 0), (up wB 1 0 3, 0), ?_, ?_, thrown_n, Or.inr (Or.inr (Or.inr rfl)), fun e => n30 e, II_up10 hII⟩
        · rw [hA0, if_neg (by omega)]
        · rw [hB0, if_neg (by omega)]
          unfold f_Re_whyNot_71
          rw [refused_n, bnd_s]
          show (if (if (3 : Int) = 0 then (0 : Int) else 1) = 0 then _ else some (up wB 1 0 3, 0)) = _
          rw [if_neg z30, if_neg z10]
    · have vA0 : vA = 0 := by
        rcases qA with ⟨-, z⟩ | ⟨z, -⟩
        · exact absurd z ok
        · exact z
      have vB0 : vB = 0 := by
        rcases qB with ⟨-, z⟩ | ⟨z, -⟩
        · exact absurd z ok
        · exact z
      refine ⟨(wA, 2, 0), (up wB 1 0 2, 0), ?_, ?_, thrown_n, Or.inr (Or.inr (Or.inl rfl)), fun e => n20 e, II_up10 hII⟩
      · have pA : f_Sc_permits wA (r : Int) 0 x2 x3 x4 = some vA := pA
        unfold f_Dm_whyNot
        rw [hA, bnd_s, if_neg z10, pA, bnd_s, vA0, if_pos rfl]
      · unfold f_Re_whyNot f_Re_whyNot_25 f_Re_whyNot_26 f_Re_whyNot_71
        rw [hB, bnd_s, if_neg z10, pB, bnd_s, vB0, if_pos rfl, bnd_s, if_neg z10, if_pos rfl, refused_n, bnd_s]
        show (if (if (2 : Int) = 0 then (0 : Int) else 1) = 0 then _ else some (up wB 1 0 2, 0)) = _
        rw [if_neg z20, if_neg z10]
  · refine ⟨(wA, 1, 0), (up wB 1 0 1, 0), ?_, ?_, thrown_n, Or.inr (Or.inl rfl), fun e => n10 e, II_up10 hII⟩
    · unfold f_Dm_whyNot
      rw [hA, bnd_s, if_pos rfl]
    · unfold f_Re_whyNot f_Re_whyNot_25 f_Re_whyNot_26 f_Re_whyNot_71
      rw [hB, bnd_s, if_pos rfl, bnd_s, if_pos rfl, refused_n, bnd_s]
      show (if (if (1 : Int) = 0 then (0 : Int) else 1) = 0 then _ else some (up wB 1 0 1, 0)) = _
      rw [if_neg z10, if_neg z10]
