/-! THE REFERENCE: goals, one more; what a rule's literals ask for -/
theorem okC2 {co j : Nat} {v : Int} : okC 2 co j v ↔ if co ≤ j then v = 0 else (0 ≤ v ∧ v ≤ 127) ∨ v = -9 := by
  unfold okC
  rw [if_neg (show ¬ ((2 : Nat) = 1) by decide), if_pos (show (2 : Nat) = 2 from rfl)]
theorem col_c {w : World} {r j : Nat} {x y z : Int} (hT : WfT w) (hr : r < 10) (hd : 1 ≤ w 3 r) (hj : j < 3) (hok : ∀ j, j < 3 → okC 2 (w 3 r).toNat j (pick x y z j)) : (if w 4 r ≠ 0 ∧ w 3 r = (j : Int) + 1 then -9 else pick x y z j) = colF w r (pick x y z) j := by
  have h3 := (hT r hr).1
  have hk := okC2.mp (hok j hj)
  unfold colF mny
  by_cases q4 : w 4 r = 0
  · rw [if_neg (fun z => z.1 q4), if_pos q4]
    by_cases q : (w 3 r).toNat ≤ j
    · rw [if_pos q] at hk
      rw [if_neg (by omega), if_neg (by omega), hk]
    · rw [if_neg q] at hk
      rw [if_pos (by omega)]
      split <;> omega
  · rw [if_neg q4]
    by_cases q : (w 3 r).toNat ≤ j
    · rw [if_pos q] at hk
      rw [if_neg (by omega), if_neg (by omega), if_neg (by omega), hk]
    · rw [if_neg q] at hk
      by_cases q2 : w 3 r = (j : Int) + 1
      · rw [if_pos ⟨q4, q2⟩, if_neg (by omega), if_pos (by omega)]
      · rw [if_neg (fun z => q2 z.2), if_pos (by omega)]
        split <;> omega
theorem askB_step {A : Nat → Nat → Prop} {w : World} {g0 n r : Nat} {g : Nat → Nat} {x y z : Int} (hT : WfT w) (hG : GoB w n g) (hS : GS A g0 n g) (hn : n < 400) (hr : r < 10) (hd : 1 ≤ w 3 r) (hok : ∀ j, j < 3 → okC 2 (w 3 r).toNat j (pick x y z j)) (hrc : Reach A g0 (genc r (mny w r) (pick x y z))) : ∃ (w' : World) (n' : Nat) (g' : Nat → Nat), f_Re_ask w (r : Int) x y z = some w' ∧ FrH w w' ∧ GoB w' n' g' ∧ GS A g0 n' g' ∧ GX n g n' g' ∧ Inn n' g' (genc r (mny w r) (pick x y z)) := by
  have hm3 := mny_3 hT hr
  have h3 := (hT r hr).1
  have hlt : ∀ j, j < mny w r → pick x y z j < 128 := fun j hj => by
    have hk := okC2.mp (hok j (by omega))
    have : ¬ (w 3 r).toNat ≤ j := by
      unfold mny at hj
      split at hj <;> omega
    rw [if_neg this] at hk
    omega
  obtain ⟨h32, hgs⟩ := id hG
  have c0 : (if w 4 r ≠ 0 ∧ w 3 r = 1 then -9 else x) = colF w r (pick x y z) 0 := col_c (j := 0) hT hr hd (by omega) hok
  have c1 : (if w 4 r ≠ 0 ∧ w 3 r = 2 then -9 else y) = colF w r (pick x y z) 1 := col_c (j := 1) hT hr hd (by omega) hok
  have c2 : (if w 4 r ≠ 0 ∧ w 3 r = 3 then -9 else z) = colF w r (pick x y z) 2 := col_c (j := 2) hT hr hd (by omega) hok
  have hPB : ∀ i, i < n → (PB w r (colF w r (pick x y z) 0) (colF w r (pick x y z) 1) (colF w r (pick x y z) 2) i ↔ g i = genc r (mny w r) (pick x y z)) := fun i hi => by
    obtain ⟨r', f, a1, a2, a3, a4, a5, a6⟩ := hgs i hi
    rw [a4, colF_eq hT a1 a3 hlt]
    unfold PB
    have b0 := a6 0 (by omega)
    have b1 := a6 1 (by omega)
    have b2 := a6 2 (by omega)
    have b0 : w 28 (3 * i) = colF w r' f 0 := b0
    rw [a5, b0, b1, b2]
    constructor
    · rintro ⟨p1, p2, p3, p4⟩
      refine ⟨by omega, fun j hj => ?_⟩
      have : j = 0 ∨ j = 1 ∨ j = 2 := by omega
      rcases this with rfl | rfl | rfl
      · exact p2
      · exact p3
      · exact p4
    · rintro ⟨p1, p2⟩
      exact ⟨by omega, p2 0 (by omega), p2 1 (by omega), p2 2 (by omega)⟩
  rw [ask_col hr, c0, c1, c2]
  rcases ask92_n (r := r) (x := colF w r (pick x y z) 0) (y := colF w r (pick x y z) 1) (z := colF w r (pick x y z) 2) h32 hn with ⟨⟨i, hi, hp⟩, he⟩ | ⟨hno, he⟩
  · exact ⟨w, n, g, he, FrH.refl, hG, hS, GX.refl, i, hi, (hPB i hi).mp hp⟩
  · obtain ⟨w', hw'⟩ : ∃ w', w' = up (up (up (up (up w 27 n (r : Int)) 28 (3 * n) (colF w r (pick x y z) 0)) 28 (3 * n + 1) (colF w r (pick x y z) 1)) 28 (3 * n + 2) (colF w r (pick x y z) 2)) 1 32 ((n : Int) + 1) := ⟨_, rfl⟩
    rw [← hw'] at he
    have hF : FrH w w' := fun c k a b d => by
      rw [hw']
      simp [up, a, b]
      intro e1 e2
      exact absurd ⟨e1, e2⟩ d
    have e3 : w' 3 = w 3 := funext fun k => hF 3 k (by decide) (by decide) (fun z => by omega)
    have e4 : w' 4 = w 4 := funext fun k => hF 4 k (by decide) (by decide) (fun z => by omega)
    have em : ∀ r, mny w' r = mny w r := fun r => by unfold mny; rw [e3, e4]
    have ec : ∀ r f j, colF w' r f j = colF w r f j := fun r f j => by unfold colF; rw [em, e3]
    have f27 : ∀ k, w' 27 k = if k = n then (r : Int) else w 27 k := fun k => by rw [hw']; simp [up]
    have f28 : ∀ k, w' 28 k = if k = 3 * n + 2 then colF w r (pick x y z) 2 else if k = 3 * n + 1 then colF w r (pick x y z) 1 else if k = 3 * n then colF w r (pick x y z) 0 else w 28 k := fun k => by rw [hw']; simp [up]
    refine ⟨w', n + 1, upn g n (genc r (mny w r) (pick x y z)), he, hF, ⟨by rw [hw']; simp [up], fun i hi => ?_⟩, hS.add hn (fun ⟨i, hi, e⟩ => hno i hi ((hPB i hi).mpr e)) hrc, GX.add, n, by omega, upn_eq⟩
    by_cases e : i = n
    · rw [e]
      refine ⟨r, pick x y z, hr, by rw [e3]; exact hd, by rw [em]; exact hlt, by rw [upn_eq, em], by rw [f27, if_pos rfl], fun j hj => ?_⟩
      rw [ec, f28]
      have : j = 0 ∨ j = 1 ∨ j = 2 := by omega
      rcases this with rfl | rfl | rfl
      · rw [if_neg (by omega), if_neg (by omega), if_pos (by omega)]
      · rw [if_neg (by omega), if_pos rfl]
      · rw [if_pos rfl]
    · obtain ⟨r', f, a1, a2, a3, a4, a5, a6⟩ := hgs i (by omega)
      refine ⟨r', f, a1, by rw [e3]; exact a2, by rw [em]; exact a3, by rw [upn_ne e, em]; exact a4, by rw [f27, if_neg e]; exact a5, fun j hj => ?_⟩
      rw [ec, f28, if_neg (by omega), if_neg (by omega), if_neg (by omega)]
      exact a6 j hj
theorem asked_n {u : World} {ru k j r : Nat} (hru : ru < 19) (hk : k < 5) (hj : j < 3) (hsj : (RBB u ru).sj k = (r : Int)) (hr : r < 10) (hV : VB u) (ht : -8 ≤ (RBB u ru).tm k j ∧ (RBB u ru).tm k j < 128) : f_Re_asked u ((5 * ru + k : Nat) : Int) (j : Int) = some (if (j : Int) < u 3 r then (if vl (vB u) ((RBB u ru).tm k j) = -1 then -9 else vl (vB u) ((RBB u ru).tm k j)) else 0) := by
  have e18 : u 18 (5 * ru + k) = (r : Int) := hsj
  have e19 : u 19 (3 * (5 * ru + k) + j) = (RBB u ru).tm k j := rfl
  have ix : wr ((wr (3 * ((5 * ru + k : Nat) : Int))) + (j : Int)) = ((3 * (5 * ru + k) + j : Nat) : Int) := by
    rw [wr_of (x := 3 * ((5 * ru + k : Nat) : Int)) ⟨by omega, by omega⟩, wr_of (x := 3 * ((5 * ru + k : Nat) : Int) + (j : Int)) ⟨by omega, by omega⟩]
    omega
  have g1 : 0 ≤ ((3 * (5 * ru + k) + j : Nat) : Int) ∧ ((3 * (5 * ru + k) + j : Nat) : Int) < 285 := ⟨by omega, by omega⟩
  have g2 : 0 ≤ ((5 * ru + k : Nat) : Int) ∧ ((5 * ru + k : Nat) : Int) < 95 := ⟨by omega, by omega⟩
  have g3 : 0 ≤ (r : Int) ∧ (r : Int) < 10 := ⟨by omega, by omega⟩
  unfold f_Re_asked
  rw [ix, gd_t g1, Int.toNat_natCast, e19, bl_s, gd_t g2, Int.toNat_natCast, e18, gd_t g3, Int.toNat_natCast, isBound_n hV ht, bnd_s]
  by_cases q : (j : Int) < u 3 r
  · rw [if_pos q, if_pos q]
    by_cases q2 : vl (vB u) ((RBB u ru).tm k j) = -1
    · rw [if_pos q2, if_pos rfl, if_pos q2]
    · rw [if_neg q2, if_neg z10, valueOf_b ht q2, bnd_s, if_neg q2]
  · rw [if_neg q, if_neg q]
theorem goalB_walk {A : Nat → Nat → Prop} {w : World} {ru k M g0 : Nat} {xi : Int} (hru : ru < 19) (hT : WfT w) (hM : w 1 1 = (M : Int)) (hk : k < 5) (hat : ∃ r : Nat, (RBB w ru).sj k = (r : Int) ∧ r < 10 ∧ 1 ≤ w 3 r) (ht : ∀ c, c < 3 → -8 ≤ (RBB w ru).tm k c ∧ (RBB w ru).tm k c < 128) : ∀ (l : List ((Nat → Int) × List Nat)) (u : World) (n : Nat) (g : Nat → Nat), ItB ru k M l u → FrJ w u → VB u → (k = 0 → l.length ≤ 1) → GoB u n g → GS A g0 n g → (∀ y, y ∈ l → VV y.1 ∧ Reach A g0 (goalQ (SA w) (RBB w ru) k y.1)) →
    ∃ (u' : World) (n' : Nat) (g' : Nat → Nat), f_Re_askBy_73 u (ru : Int) xi (k : Int) ((5 * ru + k : Nat) : Int) 1 = some (Sum.inl (u', ((k + 1 : Nat) : Int))) ∧ FrJ w u' ∧ VB u' ∧ GoB u' n' g' ∧ GS A g0 n' g' ∧ GX n g n' g' ∧ (n' = 400 ∨ ∀ y, y ∈ l → Inn n' g' (goalQ (SA w) (RBB w ru) k y.1)) := by
  have e147 : ∀ u : World, f_Re_askBy_147 u (ru : Int) xi (k : Int) = some (Sum.inl (u, ((k + 1 : Nat) : Int))) := fun u => by
    unfold f_Re_askBy_147
    rw [bl_s, wr_of (x := (k : Int) + 1) ⟨by omega, by omega⟩]
    rfl
  intro l
  induction l with
  | nil =>
    intro u n g hI hF hV hl1 hG hGS _
    by_cases q : n = 400
    · refine ⟨u, n, g, ?_, hF, hV, hG, hGS, GX.refl, Or.inl q⟩
      unfold f_Re_askBy_73
      refine lp_out ?_
      show f_Re_askBy_73B u (ru : Int) xi (k : Int) ((5 * ru + k : Nat) : Int) 1 = _
      unfold f_Re_askBy_73B
      rw [if_neg z10, hG.1, if_pos (by omega), e147, bnd_s]
    · have hn : n < 400 := by have := hGS.1; omega
      obtain ⟨u1, q1, q2, q3⟩ := hI
      have e11 : u 1 1 = (M : Int) := by rw [hF 1 1 (by decide) (by decide) (by decide) (by decide) (by decide) (fun z => by omega)]; exact hM
      refine ⟨u1, n, g, ?_, hF.trans q2.j, q3, hG.fr q2, hGS, GX.refl, Or.inr (fun y hy => absurd hy List.not_mem_nil)⟩
      unfold f_Re_askBy_73
      refine lp_out ?_
      show f_Re_askBy_73B u (ru : Int) xi (k : Int) ((5 * ru + k : Nat) : Int) 1 = _
      unfold f_Re_askBy_73B
      rw [if_neg z10, hG.1, if_neg (by omega), e11, q1, bnd_s, if_pos rfl, e147, bnd_s]
  | cons a l ih =>
    intro u n g hI hF hV hl1 hG hGS hl
    by_cases q : n = 400
    · refine ⟨u, n, g, ?_, hF, hV, hG, hGS, GX.refl, Or.inl q⟩
      unfold f_Re_askBy_73
      refine lp_out ?_
      show f_Re_askBy_73B u (ru : Int) xi (k : Int) ((5 * ru + k : Nat) : Int) 1 = _
      unfold f_Re_askBy_73B
      rw [if_neg z10, hG.1, if_pos (by omega), e147, bnd_s]
    · have hn : n < 400 := by have := hGS.1; omega
      obtain ⟨u1, q1, q2, q3, q4, q5⟩ := hI
      obtain ⟨hVa, hra⟩ := hl a List.mem_cons_self
      have hF1 := hF.trans q2.j
      have hG1 := hG.fr q2
      have hRB : RBB u1 ru = RBB w ru := hF1.R ru
      obtain ⟨r, hr, hr10, hrd⟩ := id hat
      have e3 : u1 3 = w 3 := hF1.cell (by omega) (by omega)
      have e4 : u1 4 = w 4 := hF1.cell (by omega) (by omega)
      have em : mny u1 r = mny w r := by unfold mny; rw [e3, e4]
      have hT1 : WfT u1 := WfT_congr (fun c a b => hF1.cell (by omega) (by omega)) hT
      have h3 := (hT r hr10).1
      have hm3 := mny_3 hT hr10
      have e11 : u 1 1 = (M : Int) := by rw [hF 1 1 (by decide) (by decide) (by decide) (by decide) (by decide) (fun z => by omega)]; exact hM
      have hask : ∀ j : Nat, j < 3 → f_Re_asked u1 ((5 * ru + k : Nat) : Int) (j : Int) = some (if (j : Int) < w 3 r then (if vl a.1 ((RBB w ru).tm k j) = -1 then -9 else vl a.1 ((RBB w ru).tm k j)) else 0) := fun j hj => by
        have := asked_n (u := u1) (ru := ru) (k := k) (j := j) (r := r) hru hk hj (by rw [hRB]; exact hr) hr10 q3 (by rw [hRB]; exact ht j hj)
        rw [hRB, q4, e3] at this
        exact this
      obtain ⟨P, hP⟩ : ∃ P : Nat → Int, ∀ j : Nat, P j = (if (j : Int) < w 3 r then (if vl a.1 ((RBB w ru).tm k j) = -1 then -9 else vl a.1 ((RBB w ru).tm k j)) else 0) := ⟨fun j => _, fun j => rfl⟩
      have hpk : ∀ j, j < 3 → pick (P 0) (P 1) (P 2) j = P j := fun j hj => by
        have : j = 0 ∨ j = 1 ∨ j = 2 := by omega
        rcases this with rfl | rfl | rfl <;> rfl
      have hok : ∀ j, j < 3 → okC 2 (u1 3 r).toNat j (pick (P 0) (P 1) (P 2) j) := fun j hj => by
        have hv := vl_rng hVa (ht j hj)
        rw [hpk j hj, hP, e3, okC2]
        by_cases q : (w 3 r).toNat ≤ j
        · rw [if_pos q, if_neg (by omega)]
        · rw [if_neg q, if_pos (by omega)]
          split <;> omega
      have hgq : genc r (mny u1 r) (pick (P 0) (P 1) (P 2)) = goalQ (SA w) (RBB w ru) k a.1 := by
        unfold goalQ
        rw [hr, Int.toNat_natCast, em, ← mny_D hT hr10]
        have hj3 : ∀ j, j < mny w r → (j : Int) < w 3 r := fun j hj => by
          unfold mny at hj
          split at hj <;> omega
        refine (genc_eq hm3 (fun j hj => ?_) (fun j hj => (vl_rng hVa (ht j (by omega))).2)).mpr (fun j hj => ?_)
        · rw [hpk j (by omega), hP, if_pos (hj3 j hj)]
          have hv := vl_rng hVa (ht j (by omega))
          split <;> omega
        · rw [hpk j (by omega), hP, if_pos (hj3 j hj)]
          have hv := vl_rng hVa (ht j (by omega))
          by_cases q2 : vl a.1 ((RBB w ru).tm k j) = -1
          · rw [if_pos q2, q2]
            rfl
          · rw [if_neg q2]
      obtain ⟨u2, n1, g1, t1, t2, t3, t4, t5, t6⟩ := askB_step (r := r) (x := P 0) (y := P 1) (z := P 2) hT1 hG1 hGS hn hr10 (by rw [e3]; exact hrd) hok (by rw [hgq]; exact hra)
      rw [hgq] at t6
      have k0 : f_Re_asked u1 ((5 * ru + k : Nat) : Int) 0 = some (P 0) := (hask 0 (by omega)).trans (by rw [hP])
      have k1 : f_Re_asked u1 ((5 * ru + k : Nat) : Int) 1 = some (P 1) := (hask 1 (by omega)).trans (by rw [hP])
      have k2 : f_Re_asked u1 ((5 * ru + k : Nat) : Int) 2 = some (P 2) := (hask 2 (by omega)).trans (by rw [hP])
      have e18 : u1 18 (5 * ru + k) = (r : Int) := by
        have : (RBB u1 ru).sj k = (r : Int) := by rw [hRB]; exact hr
        exact this
      have g95 : 0 ≤ ((5 * ru + k : Nat) : Int) ∧ ((5 * ru + k : Nat) : Int) < 95 := ⟨by omega, by omega⟩
      have hstep : f_Re_askBy_73B u (ru : Int) xi (k : Int) ((5 * ru + k : Nat) : Int) 1 = some (Sum.inl (u2, if (k : Int) ≤ 0 then 0 else 1)) := by
        unfold f_Re_askBy_73B f_Re_askBy_142
        rw [if_neg z10, hG.1, if_neg (by omega), e11, q1, bnd_s, if_neg z10, gd_t g95]
        show bnd (f_Re_asked u1 _ 0) _ = _
        rw [k0, bnd_s]
        show bnd (f_Re_asked u1 _ 1) _ = _
        rw [k1, bnd_s]
        show bnd (f_Re_asked u1 _ 2) _ = _
        rw [k2, bnd_s]
        show bnd (f_Re_ask u1 (u1 18 (((5 * ru + k : Nat) : Int)).toNat) (P 0) (P 1) (P 2)) _ = _
        rw [Int.toNat_natCast, e18, t1, bnd_s]
        split <;> rfl
      have hF2 := hF1.trans t2.j
      have e23 : u2 23 = u1 23 := funext fun k => t2 23 k (by decide) (by decide) (fun z => by omega)
      have e24 : u2 24 = u1 24 := funext fun k => t2 24 k (by decide) (by decide) (fun z => by omega)
      have hV2 : VB u2 := fun v hv => by rw [e24] at hv; rw [e23]; exact q3 v hv
      by_cases k0' : k = 0
      · have hln : l = [] := by
          have := hl1 k0'
          rw [List.length_cons] at this
          exact List.length_eq_zero_iff.mp (by omega)
        refine ⟨u2, n1, g1, ?_, hF2, hV2, t3, t4, t5, Or.inr (fun y hy => ?_)⟩
        · have hs : f_Re_askBy_73 u (ru : Int) xi (k : Int) ((5 * ru + k : Nat) : Int) 1 = f_Re_askBy_73 u2 (ru : Int) xi (k : Int) ((5 * ru + k : Nat) : Int) 0 := by
            rw [if_pos (by omega)] at hstep
            unfold f_Re_askBy_73
            exact lp_step (F := fun z : (World × Int) => f_Re_askBy_73B z.1 (ru : Int) xi (k : Int) ((5 * ru + k : Nat) : Int) z.2) (s := (u, 1)) hstep
          rw [hs]
          unfold f_Re_askBy_73
          refine lp_out ?_
          show f_Re_askBy_73B u2 (ru : Int) xi (k : Int) ((5 * ru + k : Nat) : Int) 0 = _
          unfold f_Re_askBy_73B
          rw [if_pos rfl, e147, bnd_s]
        · rw [hln] at hy
          rcases List.mem_cons.mp hy with e | hy
          · rw [e]; exact t6
          · exact absurd hy List.not_mem_nil
      · obtain ⟨u', n', g', p1, p2, p3, p4, p5, p6, p7⟩ := ih u2 n1 g1 (q5 u2 t2.g) hF2 hV2 (fun z => absurd z k0') t3 t4 (fun y hy => hl y (List.mem_cons_of_mem _ hy))
        refine ⟨u', n', g', ?_, p2, p3, p4, p5, t5.trans p6, ?_⟩
        · rw [← p1]
          rw [if_neg (by omega)] at hstep
          unfold f_Re_askBy_73
          exact lp_step (F := fun z : (World × Int) => f_Re_askBy_73B z.1 (ru : Int) xi (k : Int) ((5 * ru + k : Nat) : Int) z.2) (s := (u, 1)) hstep
        · rcases p7 with e | h
          · exact Or.inl e
          · refine Or.inr (fun y hy => ?_)
            rcases List.mem_cons.mp hy with e | hy
            · rw [e]; exact t6.x p6
            · exact h y hy
