/-! THE REFERENCE: how many first literals of a rule can hold -/
theorem giveB_n {w : World} {ru r : Nat} {x y z : Int} {m : Nat → Bool} {cd : Nat → Nat} (hru : ru < 19) (hT : WfT w) (hr : r < 10) (hd : 1 ≤ w 3 r) (hh : w 14 ru = (r : Int)) (hV : VB w) (htm : ∀ c, c < 3 → -8 ≤ (RBB w ru).ht c ∧ (RBB w ru).ht c < 128) (hxyz : ∀ c, c < mny w r → pick x y z c = -9 ∨ (0 ≤ pick x y z c ∧ pick x y z c < 128)) (hm : ∀ j, j < mny w r → m j = decide (pick x y z j ≠ -9) ∧ (m j = true → cd j = (pick x y z j).toNat)) (hm2 : ∀ j, mny w r ≤ j → m j = false) :
    match gv (RBB w ru).ht m cd 3 0 nov with
    | some v' => ∃ u, f_Re_giveHead w (ru : Int) x y z = some (u, 1) ∧ FrQ w u ∧ VB u ∧ ByQ u 0 ∧ u 1 30 = 0 ∧ K8 (vB u) = v'
    | none => ∃ u, f_Re_giveHead w (ru : Int) x y z = some (u, 0) ∧ FrQ w u ∧ VB u := by
  have hm3 : mny w r ≤ 3 := by have := (hT r hr).1; unfold mny; split <;> omega
  have e : gv (RBB w ru).ht m cd 3 0 nov = gv (RBB w ru).ht (fun c => decide (pick x y z c ≠ -9)) (fun c => (pick x y z c).toNat) (mny w r) 0 nov := by
    obtain ⟨k, hk⟩ : ∃ k, 3 = mny w r + k := ⟨3 - mny w r, by omega⟩
    rw [hk, gv_cut (mny w r) k 0 nov (fun j hj => hm2 j (by omega))]
    refine (gv_congr (mny w r) 0 nov (fun j _ hj => ?_)).symm
    obtain ⟨h1, h2⟩ := hm j (by omega)
    exact ⟨h1.symm, fun h => ⟨rfl, (h2 h).symm⟩⟩
  rw [e]
  exact giveHead_n hru hT hr hd hh hV htm hxyz
theorem why182 {u : World} {x1 x y z best most : Int} {ru e : Nat} (hru : ru < 12) : f_Re_whyNot_182 u x1 x y z best most (ru : Int) (e : Int) = some (Sum.inl (u, (if (e : Int) ≤ most then best else (ru : Int)), (if (e : Int) ≤ most then most else (e : Int)), ((ru + 1 : Nat) : Int))) := by
  have e214 : ∀ b' m' : Int, f_Re_whyNot_214 u x1 x y z b' m' (ru : Int) = some (Sum.inl (u, b', m', ((ru + 1 : Nat) : Int))) := fun b' m' => by
    unfold f_Re_whyNot_214
    rw [bl_s, wr_of (x := (ru : Int) + 1) ⟨by omega, by omega⟩]
    rfl
  unfold f_Re_whyNot_182 f_Re_whyNot_196 f_Re_whyNot_212
  by_cases q : (e : Int) ≤ most
  · rw [if_pos q, if_pos q, if_pos q, if_pos q, e214]
  · rw [if_neg q, if_neg q, if_neg q, if_neg q, e214]
theorem whyB_loop {w : World} {ru M n r : Nat} {ρ c cd : Nat → Nat} {m : Nat → Bool} {x1 x y z best most : Int} (hru : ru < 12) (hRu : RuBL w ru) (hSL : SafeL (RBB w ru)) (hB : BMod w M n ρ c) (hn : n ≤ 48) (hVC : VCs w n ρ c) (hr : r < 10) (hd : 1 ≤ w 3 r) (hh : w 14 ru = (r : Int)) (hM : w 1 1 = (M : Int)) (htm : ∀ c, c < 3 → -8 ≤ (RBB w ru).ht c ∧ (RBB w ru).ht c < 128) (hcd : ∀ c, cd c < 128) (hxyz : ∀ c, c < mny w r → pick x y z c = -9 ∨ (0 ≤ pick x y z c ∧ pick x y z c < 128)) (hm : ∀ j, j < mny w r → m j = decide (pick x y z j ≠ -9) ∧ (m j = true → cd j = (pick x y z j).toNat)) (hm2 : ∀ j, mny w r ≤ j → m j = false) : ∀ (j e : Nat) (u : World), e + j = (RBB w ru).ln → FrQ w u → VB u → Hld (AM n ρ c) (RBB w ru) m cd e →
    ∃ u' e', FrQ w u' ∧ VB u' ∧ e' ≤ (RBB w ru).ln ∧ Hld (AM n ρ c) (RBB w ru) m cd e' ∧ (∀ e'', e' < e'' → e'' ≤ (RBB w ru).ln → ¬ Hld (AM n ρ c) (RBB w ru) m cd e'') ∧ f_Re_whyNot_134 u x1 x y z best most (ru : Int) (e : Int) = some (Sum.inl (u', (if (e' : Int) ≤ most then best else (ru : Int)), (if (e' : Int) ≤ most then most else (e' : Int)), ((ru + 1 : Nat) : Int))) := by
  have hT := hRu.2.1
  have h16 := hRu.2.2.1
  have h5 := hRu.2.2.2.1
  intro j
  induction j with
  | zero =>
    intro e u he hF hV hP
    refine ⟨u, e, hF, hV, by omega, hP, fun e'' a1 a2 => by omega, ?_⟩
    unfold f_Re_whyNot_134
    refine lp_out ?_
    show f_Re_whyNot_134B u x1 x y z best most (ru : Int) (e : Int) = _
    unfold f_Re_whyNot_134B
    have e16 : u 16 ru = ((RBB w ru).ln : Int) := by rw [hF.cell (by omega) (by omega)]; exact h16
    rw [gd_t ⟨by omega, by omega⟩, Int.toNat_natCast, e16, if_pos (by omega), why182 hru, bnd_s]
  | succ j ih =>
    intro e u he hF hV hP
    have e16 : u 16 ru = ((RBB w ru).ln : Int) := by rw [hF.cell (by omega) (by omega)]; exact h16
    have e3 : u 3 = w 3 := hF.cell (by omega) (by omega)
    have e4 : u 4 = w 4 := hF.cell (by omega) (by omega)
    have emny : mny u r = mny w r := by unfold mny; rw [e3, e4]
    have hRu' : RBB u ru = RBB w ru := hF.R ru
    have hgB := giveB_n (w := u) (ru := ru) (r := r) (x := x) (y := y) (z := z) (m := m) (cd := cd) (by omega) (WfT_congr (fun c a b => hF.cell (by omega) (by omega)) hT) hr (by rw [e3]; exact hd) (by rw [hF.cell (by omega) (by omega)]; exact hh) hV (by rw [hRu']; exact htm) (by rw [emny]; exact hxyz) (by rw [emny]; exact hm) (by rw [emny]; exact hm2)
    rw [hRu'] at hgB
    cases hg : gv (RBB w ru).ht m cd 3 0 nov with
    | none => exact absurd hP (Hld_no htm hcd hg)
    | some v' =>
      rw [hg] at hgB
      obtain ⟨u1, g1, g2, g3, g4, g5, g6⟩ := hgB
      have hF1 := hF.trans g2
      obtain ⟨hI, hQ, hSl⟩ := walkB_it (E := e + 1) hRu hSL hB hn hVC (by omega) hF1 g3 g4 g5
      have hx := Hld_ex hQ hSl cand_CQ g3.vv htm hcd hg g6
      have e11 : u1 1 1 = (M : Int) := by rw [hF1 1 1 (by decide) (by decide) (by decide) (fun z => by omega)]; exact hM
      have hbody : f_Re_whyNot_134B u x1 x y z best most (ru : Int) (e : Int) = bnd (f_Re_next u1 (ru : Int) ((e + 1 : Nat) : Int) (M : Int)) fun v14 => if v14.2 = 0 then (bnd (f_Re_whyNot_182 v14.1 x1 x y z best most (ru : Int) (e : Int)) fun y18 => some (Sum.inr y18)) else (bl (wr ((e : Int) + 1)) fun n19 => some (Sum.inl (v14.1, n19))) := by
        unfold f_Re_whyNot_134B
        rw [gd_t ⟨by omega, by omega⟩, Int.toNat_natCast, e16, if_neg (by omega), g1, bnd_s, if_neg z10]
        show bnd (f_Re_next u1 (ru : Int) (wr ((e : Int) + 1)) (u1 1 1)) _ = _
        rw [e11, wr_of (x := (e : Int) + 1) ⟨by omega, by omega⟩]
        rfl
      cases hl : en (oq (SA w) (AM n ρ c) (RBB w ru) ρ c) (fun d => cand (RBB w ru) n d 0) (e + 1) 0 (vB u1) [] with
      | nil =>
        rw [hl] at hI
        obtain ⟨u2, q1, q2, q3⟩ := hI
        have hno : ¬ Hld (AM n ρ c) (RBB w ru) m cd (e + 1) := fun z => (hx.mpr z) hl
        refine ⟨u2, e, hF1.trans q2, q3, by omega, hP, fun e'' a1 a2 z => hno (z.le (by omega)), ?_⟩
        unfold f_Re_whyNot_134
        refine lp_out ?_
        show f_Re_whyNot_134B u x1 x y z best most (ru : Int) (e : Int) = _
        rw [hbody, q1, bnd_s, if_pos rfl, why182 hru, bnd_s]
      | cons a as =>
        rw [hl] at hI
        obtain ⟨u2, q1, q2, q3, -⟩ := hI
        have hP1 : Hld (AM n ρ c) (RBB w ru) m cd (e + 1) := hx.mp (by rw [hl]; exact List.cons_ne_nil a as)
        obtain ⟨u', e', p1, p2, p3, p4, p5, p6⟩ := ih (e + 1) u2 (by omega) (hF1.trans q2) q3 hP1
        refine ⟨u', e', p1, p2, p3, p4, p5, ?_⟩
        rw [← p6]
        unfold f_Re_whyNot_134
        refine lp_step (F := fun z' : (World × Int) => f_Re_whyNot_134B z'.1 x1 x y z best most (ru : Int) z'.2) (s := (u, (e : Int))) ?_
        show f_Re_whyNot_134B u x1 x y z best most (ru : Int) (e : Int) = _
        rw [hbody, q1, bnd_s, if_neg z10, bl_s, wr_of (x := (e : Int) + 1) ⟨by omega, by omega⟩]
        rfl
/-! BOTH: why not -/
theorem pick_pk {a b c : Nat} (ha : a < 128) (hb : b < 128) (hc : c < 128) {j : Nat} (hj : j < 3) : pick (a : Int) (b : Int) (c : Int) j = ((clm (pk a b c) j : Nat) : Int) := by
  have : j = 0 ∨ j = 1 ∨ j = 2 := by omega
  rcases this with rfl | rfl | rfl
  · show (a : Int) = ((cl0 _ : Nat) : Int)
    rw [cl0_pk ha hb hc]
  · show (b : Int) = ((cl1 _ : Nat) : Int)
    rw [cl1_pk ha hb hc]
  · show (c : Int) = ((cl2 _ : Nat) : Int)
    rw [cl2_pk ha hb hc]
theorem why_rule {nF mm d now top kk r a b c0 : Nat} {L g : Nat → Nat} {w u : World} {best most : Int} (hI : Inv nF mm d now top L g w u) (hkk : kk < mm) (hr : r < 10) (hd : 1 ≤ w 3 r) (ha : a < 128) (hb : b < 128) (hc0 : c0 < 128) (hmost : -1 ≤ most) :
    ∃ w1 u1 h, f_Dm_literalsHeld w (22 + 4 * kk) (r : Int) ((pk a b c0 : Nat) : Int) = some (w1, h) ∧ f_Re_whyNot_88B u (r : Int) (a : Int) (b : Int) (c0 : Int) best most (kk : Int) = some (Sum.inl (u1, (if h ≤ most then best else (kk : Int)), (if h ≤ most then most else h), ((kk + 1 : Nat) : Int))) ∧ QAr w w1 ∧ QBr u u1 ∧ u1 1 0 = u 1 0 ∧ -1 ≤ h ∧ h ≤ 5 := by
  obtain ⟨i1, i2, i3, i4, i5, i6, i7, i8, i9, i10, i11⟩ := id hI
  obtain ⟨⟨N, ρ, c, Lc, a1, a2, a3, a4, -⟩, n, ρ', c', b1, b2, b3, b4⟩ := (i9 now i6.2.2).A
  have hs := least_both hI.low.S a4 b4
  have hm12 : mm ≤ 12 := i3.1.2.2.1
  have hk12 : kk < 12 := by omega
  obtain ⟨rA1, rA2, -⟩ := i3.1.2.2.2.2 kk hkk
  obtain ⟨⟨rB1, rT, rB3, rB4⟩, -⟩ := i3.2.1.2.2 kk hkk
  obtain ⟨k1, k2, k3, k4, k5, k6⟩ := i3.2.2 kk hkk
  have h5 := rA2.1
  have htg : u 14 kk = w (22 + 4 * kk) 1 := k1.2.2.1
  have nB : u 1 14 = (mm : Int) := i3.2.1.1
  have hkd : kdA (22 + 4 * kk) = 1 := by
    have : ∀ j, j < 12 → kdA (22 + 4 * j) = 1 := by decide +kernel
    exact this kk hk12
  have e214 : ∀ u' : World, f_Re_whyNot_214 u' (r : Int) (a : Int) (b : Int) (c0 : Int) best most (kk : Int) = some (Sum.inl (u', best, most, ((kk + 1 : Nat) : Int))) := fun u' => by
    unfold f_Re_whyNot_214
    rw [bl_s, wr_of (x := (kk : Int) + 1) ⟨by omega, by omega⟩]
    rfl
  have hlit : f_Dm_literalsHeld w (22 + 4 * kk) (r : Int) ((pk a b c0 : Nat) : Int) = f_Dm_literalsHeld_6 w (22 + 4 * kk) (r : Int) ((pk a b c0 : Nat) : Int) ((RB w (22 + 4 * kk)).ln : Int) := by
    unfold f_Dm_literalsHeld
    rw [bl_s, rA1]
  by_cases act : w (22 + 4 * kk) 2 = 0 ∧ w (22 + 4 * kk) 1 = (r : Int)
  · have hpk : pk a b c0 < 2097152 := pkq_lt ha hb hc0
    have hRd : RdA w (22 + 4 * kk) (g now) r N ρ c Lc := ⟨⟨hkd, kd_ref i8 (by omega), present_n i8 i6.2.2 i6.1⟩, ⟨i1.1, a1, a2⟩, ⟨hr, hd⟩, ⟨rA2, k4, k6⟩, rA1, act.2, act.1⟩
    obtain ⟨w1, h, p1, p2, p3, p4⟩ := heldA hpk (RB w (22 + 4 * kk)).ln w hRd i10 (Nat.le_refl _)
    have hhtA : ∀ c, c < 3 → -8 ≤ (RB w (22 + 4 * kk)).ht c ∧ (RB w (22 + 4 * kk)).ht c < 128 := rA2.2.2.2.2.2.2
    have hhtB : ∀ c, c < 3 → -8 ≤ (RBB u kk).ht c ∧ (RBB u kk).ht c < 128 := fun c hc => by rw [k1.2.2.2 c hc]; exact hhtA c hc
    have hu3 : u 3 r = w 3 r := (i1.2 r hr).1
    have hu4 : u 4 r = w 4 r := (i1.2 r hr).2.1
    have emny : mny u r = mny w r := by unfold mny; rw [hu3, hu4]
    have hm3 : mny w r ≤ 3 := by have := (i1.1 r hr).1; unfold mny; split <;> omega
    have hpick : ∀ j, j < 3 → pick (a : Int) (b : Int) (c0 : Int) j = ((clm (pk a b c0) j : Nat) : Int) := fun j hj => pick_pk ha hb hc0 hj
    have hxyz : ∀ j, j < mny u r → pick (a : Int) (b : Int) (c0 : Int) j = -9 ∨ (0 ≤ pick (a : Int) (b : Int) (c0 : Int) j ∧ pick (a : Int) (b : Int) (c0 : Int) j < 128) := fun j hj => by
      have hcl : clm (pk a b c0) j < 128 := clm_lt
      rw [hpick j (by omega)]
      omega
    have hm : ∀ j, j < mny u r → (tm8 (mny w r)).testBit j = decide (pick (a : Int) (b : Int) (c0 : Int) j ≠ -9) ∧ ((tm8 (mny w r)).testBit j = true → clm (pk a b c0) j = (pick (a : Int) (b : Int) (c0 : Int) j).toNat) := fun j hj => by
      rw [hpick j (by omega), tm8_bit, Int.toNat_natCast]
      refine ⟨?_, fun _ => rfl⟩
      rw [decide_eq_true (show j < mny w r by omega), decide_eq_true (show ((clm (pk a b c0) j : Nat) : Int) ≠ -9 by omega)]
    have hm2 : ∀ j, mny u r ≤ j → (tm8 (mny w r)).testBit j = false := fun j hj => by
      rw [tm8_bit]
      exact decide_eq_false (by omega)
    have hgB := giveB_n (w := u) (ru := kk) (r := r) (x := (a : Int)) (y := (b : Int)) (z := (c0 : Int)) (m := fun j => (tm8 (mny w r)).testBit j) (cd := clm (pk a b c0)) (by omega) rT hr (by rw [hu3]; exact hd) (by rw [htg]; exact act.2) i11 hhtB hxyz hm hm2
    have hsame : ∀ e, e ≤ (RB w (22 + 4 * kk)).ln → (Hld (AM N ρ c) (RB w (22 + 4 * kk)) (fun c => (tm8 (mny w r)).testBit c) (clm (pk a b c0)) e ↔ Hld (AM n ρ' c') (RBB u kk) (fun c => (tm8 (mny w r)).testBit c) (clm (pk a b c0)) e) := fun e he => Hld.same hs k1 he (fun j _ => ⟨rfl, fun _ => rfl⟩)
    have hbody : f_Re_whyNot_88B u (r : Int) (a : Int) (b : Int) (c0 : Int) best most (kk : Int) = bnd (f_Re_giveHead u (kk : Int) (a : Int) (b : Int) (c0 : Int)) fun v15 => if v15.2 = 0 then (f_Re_whyNot_214 v15.1 (r : Int) (a : Int) (b : Int) (c0 : Int) best most (kk : Int)) else (f_Re_whyNot_134 v15.1 (r : Int) (a : Int) (b : Int) (c0 : Int) best most (kk : Int) 0) := by
      unfold f_Re_whyNot_88B
      rw [nB, if_neg (by omega), gd_t ⟨by omega, by omega⟩, Int.toNat_natCast, k2, if_pos act.1, gd_t ⟨by omega, by omega⟩, htg, if_pos act.2]
    have fin : ∀ (u1 : World) (h' : Int), FrQ u u1 → VB u1 → Top (Hld (AM n ρ' c') (RBB u kk) (fun c => (tm8 (mny w r)).testBit c) (clm (pk a b c0))) (RB w (22 + 4 * kk)).ln h' → f_Re_whyNot_88B u (r : Int) (a : Int) (b : Int) (c0 : Int) best most (kk : Int) = some (Sum.inl (u1, (if h' ≤ most then best else (kk : Int)), (if h' ≤ most then most else h'), ((kk + 1 : Nat) : Int))) → ∃ w1 u1 h, f_Dm_literalsHeld w (22 + 4 * kk) (r : Int) ((pk a b c0 : Nat) : Int) = some (w1, h) ∧ f_Re_whyNot_88B u (r : Int) (a : Int) (b : Int) (c0 : Int) best most (kk : Int) = some (Sum.inl (u1, (if h ≤ most then best else (kk : Int)), (if h ≤ most then most else h), ((kk + 1 : Nat) : Int))) ∧ QAr w w1 ∧ QBr u u1 ∧ u1 1 0 = u 1 0 ∧ -1 ≤ h ∧ h ≤ 5 := fun u1 h' f1 f2 f3 f4 => by
      have e : h = h' := Top.uni hsame p4 f3
      subst e
      refine ⟨w1, u1, h, hlit.trans p1, f4, ⟨fun c hc => p2 c (by omega), p3⟩, (FrQ.toR (M := 4) f1).QB f2, f1 1 0 (by decide) (by decide) (by decide) (fun z => by omega), ?_⟩
      rcases p4 with ⟨x1, -⟩ | ⟨e, x1, x2, -⟩
      · omega
      · omega
    cases hg : gv (RBB u kk).ht (fun j => (tm8 (mny w r)).testBit j) (clm (pk a b c0)) 3 0 nov with
    | none =>
      rw [hg] at hgB
      obtain ⟨u1, g1, g2, g3⟩ := hgB
      refine fin u1 (-1) g2 g3 (Or.inl ⟨rfl, fun e he => Hld_no hhtB (fun c => clm_lt) hg⟩) ?_
      rw [hbody, g1, bnd_s, if_pos rfl, e214, if_pos hmost, if_pos hmost]
    | some v' =>
      rw [hg] at hgB
      obtain ⟨u1, g1, g2, g3, g4, g5, g6⟩ := hgB
      have h0 := Hld_0 (M := AM n ρ' c') hhtB (fun c => clm_lt) hg
      obtain ⟨u', e', z1, z2, z3, z4, z5, z6⟩ := whyB_loop (x1 := (r : Int)) (best := best) (most := most) (x := (a : Int)) (y := (b : Int)) (z := (c0 : Int)) (m := fun j => (tm8 (mny w r)).testBit j) (cd := clm (pk a b c0)) hk12 ⟨rB1, rT, rB3, rB4.L⟩ (k1.T.safeL.mp k4) b1 b3 b2 hr (by rw [hu3]; exact hd) (by rw [htg]; exact act.2) i6.2.1 hhtB (fun c => clm_lt) hxyz hm hm2 (RBB u kk).ln 0 u1 (by omega) g2 g3 h0
      rw [k1.1] at z3 z5
      refine fin u' (e' : Int) z1 z2 (Or.inr ⟨e', rfl, z3, z4, z5⟩) ?_
      rw [hbody, g1, bnd_s, if_neg z10]
      exact z6
  · refine ⟨w, u, -1, hlit.trans (held_no act _ h5), ?_, QAr.refl i10, QBr.refl i11, rfl, by omega, by omega⟩
    unfold f_Re_whyNot_88B
    rw [nB, if_neg (by omega), gd_t ⟨by omega, by omega⟩, Int.toNat_natCast, k2, if_pos hmost, if_pos hmost]
    by_cases q : w (22 + 4 * kk) 2 = 0
    · rw [if_pos q, gd_t ⟨by omega, by omega⟩, htg, if_neg (fun z => act ⟨q, z⟩), e214]
    · rw [if_neg q, e214]
