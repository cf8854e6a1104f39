/-! BOTH: goals -/
theorem AskQ_one {D : SH} {R R' : RU} {M M' : MM} {g g' k : Nat} {v' u : Nat → Int} (hM : ∀ r k, M r k ↔ M' r k) (hE : RE R R') (htg : R.tg = ((g / 16777216 : Nat) : Int)) (hk : k < R.ln) (hfm : R.fm k = 0 ∨ R.fm k = 1) (hgv : gv R.ht (fun j => (g / 2097152 % 8).testBit j) (clm (g % 2097152)) 3 0 nov = some v') (hA : AsQ M R k v' u) (hq : g' = goalQ D R k u) : R'.tg = ((g / 16777216 : Nat) : Int) ∧ k < R'.ln ∧ (R'.fm k = 0 ∨ R'.fm k = 1) ∧ gv R'.ht (fun j => (g / 2097152 % 8).testBit j) (clm (g % 2097152)) 3 0 nov = some v' ∧ AsQ M' R' k v' u ∧ g' = goalQ D R' k u := by
  obtain ⟨e1, e2, e3, e4⟩ := hE
  obtain ⟨f1, f2, f3⟩ := e2 k hk
  refine ⟨by rw [e3]; exact htg, by rw [e1]; exact hk, by rw [f1]; exact hfm, ?_, ?_, ?_⟩
  · rw [← hgv]
    exact gv_congr 3 0 nov (fun j _ hj => ⟨rfl, fun _ => ⟨e4 j (by omega), rfl⟩⟩)
  · exact (AsQ_same hM (fun p hp => e2 p (by omega)) (fun _ _ => rfl)).mp hA
  · rw [hq]
    unfold goalQ
    rw [f2]
    exact (genc_congr (fun j hj => by
      show vl u (R'.tm k j) = vl u (R.tm k j)
      rw [f3 j hj])).symm
theorem RE.sy {R R' : RU} (h : RE R R') : RE R' R := by
  obtain ⟨e1, e2, e3, e4⟩ := h
  refine ⟨e1.symm, fun p hp => ?_, e3.symm, fun c hc => (e4 c hc).symm⟩
  obtain ⟨f1, f2, f3⟩ := e2 p (by omega)
  exact ⟨f1.symm, f2.symm, fun c hc => (f3 c hc).symm⟩
theorem AskQ_same {D : SH} {RR RR' : RU → Prop} {M M' : MM} (hS : RS RR RR') (hM : ∀ r k, M r k ↔ M' r k) : AskQ D RR M = AskQ D RR' M' := by
  funext g g'
  refine propext ⟨?_, ?_⟩
  · rintro ⟨R, k, v', u, hR, a1, a2, a3, a4, a5, a6⟩
    obtain ⟨R', hR', hE⟩ := hS.1 R hR
    exact ⟨R', k, v', u, hR', AskQ_one hM hE a1 a2 a3 a4 a5 a6⟩
  · rintro ⟨R', k, v', u, hR', a1, a2, a3, a4, a5, a6⟩
    obtain ⟨R, hR, hE⟩ := hS.2 R' hR'
    exact ⟨R, k, v', u, hR, AskQ_one (fun r k => (hM r k).symm) hE.sy a1 a2 a3 a4 a5 a6⟩
theorem FrD.q {w u : World} (h : FrD w u) (hV : VV (u 104)) : QAr w u := ⟨fun c hc => h c (by omega) (by omega) (by omega) (by omega), hV⟩
theorem FrJ.q {w u : World} (h : FrJ w u) (hV : VB u) : QBr w u := ⟨fun c k a b => h c k (by omega) (by omega) (by omega) (by omega) (by omega) (fun z => b (by omega)), fun k _ => h 20 k (by decide) (by decide) (by decide) (by decide) (by decide) (fun z => by omega), fun k _ => h 21 k (by decide) (by decide) (by decide) (by decide) (by decide) (fun z => by omega), fun k _ => h 22 k (by decide) (by decide) (by decide) (by decide) (by decide) (fun z => by omega), hV⟩
theorem goals_both {nF mm d now top r : Nat} {L g : Nat → Nat} {wA wB : World} {x y z : Int} (hI : Inv nF mm d now top L g wA wB) (hr : r < 10) (hd : 1 ≤ wA 3 r) (hok : ∀ j, j < 3 → okC 2 (wA 3 r).toNat j (pick x y z j)) : ∃ (wA' wB' : World) (n : Int), (bnd (f_Go_empty wA) fun v12 => bnd (f_Sc_goalOf v12 (r : Int) x y z) fun v15 => bnd (f_Go_ask v12 v15) fun v18 => f_Dm_goals_77 v18 0) = some (wA', 0, n) ∧ (bnd (f_Re_ask (up wB 1 32 0) (r : Int) x y z) fun v8 => f_Re_goals_76 v8 0) = some (wB', n) ∧ QAr wA wA' ∧ QBr wB wB' ∧ wB' 1 0 = wB 1 0 := by
  obtain ⟨i1, i2, i3, i4, i5, i6, i7, i8, i9, i10, i11⟩ := id hI
  obtain ⟨⟨N, ρ, c, Lc, a1, a2, a3, a4, -⟩, n, ρ', c', b1, b2, b3, b4⟩ := (i9 now i6.2.2).A
  have hs := least_both hI.low.S a4 b4
  have e3 : wB 3 r = wA 3 r := (i1.2 r hr).1
  have e4 : wB 4 r = wA 4 r := (i1.2 r hr).2.1
  have em : mny wB r = mny wA r := by unfold mny; rw [e3, e4]
  have hA : CgA wA mm (g now) N ρ c Lc := ⟨⟨a1, a2, i1.1⟩, ⟨i3.1, fun i hi => (i3.2.2 i hi).2.2.2⟩, present_n i8 i6.2.2 i6.1, kd_ref i8 (by omega)⟩
  have hB : CgB wB mm now n ρ' c' := ⟨⟨b1, b2, b3, i6.2.1, i1.T⟩, i3.2.1, fun i hi => ((i3.2.2 i hi).1.T.safeL).mp (i3.2.2 i hi).2.2.2.1⟩
  have hm3 := mny_3 i1.1.T hr
  have hlt : ∀ j, j < mny wA r → pick x y z j < 128 := fun j hj => by
    have hk := okC2.mp (hok j (by omega))
    have : ¬ (wA 3 r).toNat ≤ j := by
      unfold mny at hj
      split at hj <;> omega
    rw [if_neg this] at hk
    omega
  obtain ⟨wA', nA, gA, p1, p2, p3, p4, p5⟩ := goalA_all (x := x) (y := y) (z := z) hA i10 hr hd hlt
  obtain ⟨wB', nB, gB, q1, q2, q3, q4, q5⟩ := goalB_all (x := x) (y := y) (z := z) hB i11 hr (by rw [e3]; exact hd) (by rw [e3]; exact hok)
  have hAA : AskQ (SA wA) (RrA mm wA) (AM N ρ c) = AskQ (SA wB) (RrB mm wB) (AM n ρ' c') := by
    rw [i1.SA]
    exact AskQ_same i3.RS hs
  rw [hAA] at p4 p5
  rw [em] at q4 q5
  have hn : nA = nB := goals_eq p4 q4 p5 q5
  refine ⟨wA', wB', (nA : Int), p1, by rw [hn]; exact q1, p2.q p3, q2.q q3, q2 1 0 (by decide) (by decide) (by decide) (by decide) (by decide) (fun z => by omega)⟩
theorem st_goals : St_goals II := by
  intro wA wB hII x1 x2 x3 x4 _ _ _ _
  obtain ⟨nF, m, d, now, top, L, g, hI⟩ := id hII
  obtain ⟨i1, i2, i3, i4, i5, i6, i7, i8, i9, i10, i11⟩ := id hI
  rcases decl_both i1 x1 with ⟨r, rfl, hr, hd, hA, hB⟩ | ⟨-, hA, hB⟩
  · obtain ⟨vA, pA, qA⟩ := permits_n (so := 2) (x := x2) (y := x3) (z := x4) i1.1 hr (by omega)
    obtain ⟨vB, pB, qB⟩ := areValues_n (fr := 1) (so := 2) (x := x2) (y := x3) (z := x4) i1.T hr (Or.inr ⟨rfl, rfl⟩)
    have e3 : wB 3 r = wA 3 r := (i1.2 r hr).1
    rw [e3] at qB
    by_cases ok : ∀ j, j < 3 → okC 2 (wA 3 r).toNat j (pick x2 x3 x4 j)
    · have vA1 : vA = 1 := by
        rcases qA with ⟨z, -⟩ | ⟨-, z⟩
        · exact z
        · exact absurd ok z
      have vB1 : vB = 1 := by
        rcases qB with ⟨z, -⟩ | ⟨-, z⟩
        · exact z
        · exact absurd ok z
      have hI0 : Inv nF m d now top L g wA (up wB 1 0 0) := Inv_up10 hI
      obtain ⟨wA', wB', n, t1, t2, t3, t4, t5⟩ := goals_both hI0 hr hd ok
      refine ⟨(wA', 0, n), (wB', n), ?_, ?_, ?_, Or.inl rfl, fun _ => rfl, nF, m, d, now, top, L, g, Inv_q t3 t4 hI0⟩
      · have pA : f_Sc_permits wA (r : Int) 2 x2 x3 x4 = some vA := pA
        unfold f_Dm_goals
        rw [hA, bnd_s, if_neg z10, pA, bnd_s, vA1, if_neg z10]
        exact t1
      · unfold f_Re_goals f_Re_goals_26 f_Re_goals_51
        rw [hB, bnd_s, if_neg z10, pB, bnd_s, vB1, if_neg z10, bnd_s, if_neg z10, if_neg z10, refused_n, bnd_s]
        show (if (if (0 : Int) = 0 then (0 : Int) else 1) = 0 then (bl (up (up wB 1 0 0) 1 32 0) fun w6 => bnd (f_Re_ask w6 (r : Int) x2 x3 x4) fun v8 => f_Re_goals_76 v8 0) else _) = _
        rw [if_pos (if_pos rfl), bl_s]
        exact t2
      · unfold f_Re_thrown
        show some (wB' 1 0) = _
        rw [t5]
        simp [up]
        rfl
    · have vA0 : vA = 0 := by
        rcases qA with ⟨-, z⟩ | ⟨z, -⟩
        · exact absurd z ok
        · exact z
      have vB0 : vB = 0 := by
        rcases qB with ⟨-, z⟩ | ⟨z, -⟩
        · exact absurd z ok
        · exact z
      refine ⟨(wA, 2, 0), (up wB 1 0 2, 0), ?_, ?_, thrown_n, Or.inr (Or.inr rfl), fun e => n20 e, II_up10 hII⟩
      · have pA : f_Sc_permits wA (r : Int) 2 x2 x3 x4 = some vA := pA
        unfold f_Dm_goals
        rw [hA, bnd_s, if_neg z10, pA, bnd_s, vA0, if_pos rfl]
      · unfold f_Re_goals f_Re_goals_25 f_Re_goals_26 f_Re_goals_51
        rw [hB, bnd_s, if_neg z10, pB, bnd_s, vB0, if_pos rfl, bnd_s, if_neg z10, if_pos rfl, refused_n, bnd_s]
        show (if (if (2 : Int) = 0 then (0 : Int) else 1) = 0 then _ else some (up wB 1 0 2, 0)) = _
        rw [if_neg z20, if_neg z10]
  · refine ⟨(wA, 1, 0), (up wB 1 0 1, 0), ?_, ?_, thrown_n, Or.inr (Or.inl rfl), fun e => n10 e, II_up10 hII⟩
    · unfold f_Dm_goals
      rw [hA, bnd_s, if_pos rfl]
    · unfold f_Re_goals f_Re_goals_25 f_Re_goals_26 f_Re_goals_51
      rw [hB, bnd_s, if_pos rfl, bnd_s, if_pos rfl, refused_n, bnd_s]
      show (if (if (1 : Int) = 0 then (0 : Int) else 1) = 0 then _ else some (up wB 1 0 1, 0)) = _
      rw [if_neg z10, if_neg z10]
