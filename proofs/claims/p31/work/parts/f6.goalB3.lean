/-! THE REFERENCE: goals, the places, the rules and all goals -/
def CgB (w : World) (mm M N : Nat) (ρ c : Nat → Nat) : Prop := (BMod w M N ρ c ∧ VCs w N ρ c ∧ N ≤ 48 ∧ w 1 1 = (M : Int) ∧ WfT w) ∧ PgB w mm ∧ ∀ i, i < mm → SafeL (RBB w i)
theorem FrJ.c {w w' : World} (h : FrJ w w') : ∀ c, 2 ≤ c → c < 20 → w' c = w c := fun _ _ _ => h.cell (by omega) (by omega)
theorem goalB_places {w : World} {mm M N ru g0 x xi : Nat} {ρ c : Nat → Nat} (h : CgB w mm M N ρ c) (hru : ru < mm) (act : w 13 ru = 0) (htg : (RBB w ru).tg = ((x / 16777216 : Nat) : Int)) (hrx : Reach (AskQ (SA w) (RrB mm w) (AM N ρ c)) g0 x) (hxi : xi < 400) : ∀ (j k : Nat) (u : World) (n : Nat) (g : Nat → Nat), k + j = (RBB w ru).ln → FrJ w u → VB u → GoB u n g → xi < n → g xi = x → GS (AskQ (SA w) (RrB mm w) (AM N ρ c)) g0 n g →
    ∃ (u' : World) (n' : Nat) (g' : Nat → Nat), f_Re_askBy_2 u (ru : Int) (xi : Int) (k : Int) = some u' ∧ FrJ w u' ∧ VB u' ∧ GoB u' n' g' ∧ GS (AskQ (SA w) (RrB mm w) (AM N ρ c)) g0 n' g' ∧ GX n g n' g' ∧ (n' = 400 ∨ ∀ k' v' y, k ≤ k' → k' < (RBB w ru).ln → ((RBB w ru).fm k' = 0 ∨ (RBB w ru).fm k' = 1) → gv (RBB w ru).ht (fun j => (x / 2097152 % 8).testBit j) (clm (x % 2097152)) 3 0 nov = some v' → AsQ (AM N ρ c) (RBB w ru) k' v' y → Inn n' g' (goalQ (SA w) (RBB w ru) k' y)) := by
  obtain ⟨⟨b1, b2, b3, b4, b5⟩, ⟨p0, p1, p2⟩, p4⟩ := h
  have hru12 : ru < 12 := by omega
  have hRu := (p2 ru hru).1
  obtain ⟨r1, r2, r3, r4⟩ := id hRu
  have hsafe := p4 ru hru
  have h5 := r4.1
  have hht := r4.2.2.2.2.2.2
  have htm := r4.2.2.2.2.2.1
  have hRR : RrB mm w (RBB w ru) := ⟨ru, hru, act, rfl⟩
  have e147 : ∀ (u : World) (k : Nat), k < 5 → f_Re_askBy_147 u (ru : Int) (xi : Int) (k : Int) = some (Sum.inl (u, ((k + 1 : Nat) : Int))) := fun u k hk => by
    unfold f_Re_askBy_147
    rw [bl_s, wr_of (x := (k : Int) + 1) ⟨by omega, by omega⟩]
    rfl
  have e70 : ∀ (u : World) (k : Nat), k < 5 → f_Re_askBy_70 u (ru : Int) (xi : Int) (k : Int) ((5 * ru + k : Nat) : Int) = some (Sum.inl (u, ((k + 1 : Nat) : Int))) := fun u k hk => by
    unfold f_Re_askBy_70 f_Re_askBy_71 f_Re_askBy_73
    refine lp_out ?_
    show f_Re_askBy_73B u (ru : Int) (xi : Int) (k : Int) ((5 * ru + k : Nat) : Int) 0 = _
    unfold f_Re_askBy_73B
    rw [if_pos rfl, e147 u k hk, bnd_s]
  have gr : 0 ≤ (ru : Int) ∧ (ru : Int) < 19 := ⟨by omega, by omega⟩
  intro j
  induction j with
  | zero =>
    intro k u n g hj hF hV hG hxn hgx hGS
    refine ⟨u, n, g, ?_, hF, hV, hG, hGS, GX.refl, Or.inr (fun k' v' y h1 h2 => by omega)⟩
    unfold f_Re_askBy_2
    refine lp_out ?_
    show f_Re_askBy_2B u (ru : Int) (xi : Int) (k : Int) = _
    unfold f_Re_askBy_2B
    rw [gd_t gr, Int.toNat_natCast, hF.cell (c := 16) (by omega) (by omega), r3, if_pos (by omega)]
  | succ j ih =>
    intro k u n g hj hF hV hG hxn hgx hGS
    have hkl : k < (RBB w ru).ln := by omega
    have hRBu : RBB u ru = RBB w ru := hF.R ru
    have e17 : u 17 (5 * ru + k) = (RBB w ru).fm k := by rw [← hRBu]; rfl
    have hfm := r4.2.1 k hkl
    have ix : wr ((wr (5 * (ru : Int))) + (k : Int)) = ((5 * ru + k : Nat) : Int) := by
      rw [wr_of (x := 5 * (ru : Int)) ⟨by omega, by omega⟩, wr_of (x := 5 * (ru : Int) + (k : Int)) ⟨by omega, by omega⟩]
      omega
    have g95 : 0 ≤ ((5 * ru + k : Nat) : Int) ∧ ((5 * ru + k : Nat) : Int) < 95 := ⟨by omega, by omega⟩
    have go : ∀ (u1 : World), f_Re_askBy_2B u (ru : Int) (xi : Int) (k : Int) = some (Sum.inl (u1, ((k + 1 : Nat) : Int))) → f_Re_askBy_2 u (ru : Int) (xi : Int) (k : Int) = f_Re_askBy_2 u1 (ru : Int) (xi : Int) ((k + 1 : Nat) : Int) := fun u1 h1 => by
      unfold f_Re_askBy_2
      exact lp_step (F := fun z : (World × Int) => f_Re_askBy_2B z.1 (ru : Int) (xi : Int) z.2) (s := (u, (k : Int))) h1
    obtain ⟨r0, f, a1, a2, a3, a4, a5, a6⟩ := hG.2 xi hxn
    have hTu : WfT u := WfT_congr (fun c a b => hF.cell (by omega) (by omega)) b5
    have hm3 := mny_3 hTu a1
    rw [hgx] at a4
    obtain ⟨d1, d2, d3⟩ := genc_dec (r := r0) a3
    rw [← a4] at d1 d2 d3
    by_cases at' : (RBB w ru).fm k = 0 ∨ (RBB w ru).fm k = 1
    · have c0 : u 28 (3 * xi) = colF u r0 f 0 := a6 0 (by omega)
      have c1 : u 28 (3 * xi + 1) = colF u r0 f 1 := a6 1 (by omega)
      have c2 : u 28 (3 * xi + 2) = colF u r0 f 2 := a6 2 (by omega)
      have hpk : ∀ j, j < 3 → pick (u 28 (3 * xi)) (u 28 (3 * xi + 1)) (u 28 (3 * xi + 2)) j = colF u r0 f j := fun j hj => by
        have : j = 0 ∨ j = 1 ∨ j = 2 := by omega
        rcases this with rfl | rfl | rfl
        · exact c0
        · exact c1
        · exact c2
      have hcol : ∀ j, j < mny u r0 → colF u r0 f j = if 0 ≤ f j then f j else -9 := fun j hj => if_pos hj
      have hgB := giveB_n (w := u) (ru := ru) (r := r0) (x := u 28 (3 * xi)) (y := u 28 (3 * xi + 1)) (z := u 28 (3 * xi + 2)) (m := fun j => (x / 2097152 % 8).testBit j) (cd := clm (x % 2097152)) r1 hTu a1 a2 (by
        have : (RBB u ru).tg = (r0 : Int) := by rw [hRBu, htg, d1]
        exact this) hV (by rw [hRBu]; exact hht) (fun j hj => by
        rw [hpk j (by omega), hcol j hj]
        have := a3 j hj
        split <;> omega) (fun j hj => by
        rw [hpk j (by omega), hcol j hj, d2, d3, gset_bit hm3, gcode_clm a3 (by omega)]
        unfold gval
        by_cases q : 0 ≤ f j
        · rw [if_pos q, if_pos ⟨hj, q⟩, decide_eq_true (show j < mny u r0 ∧ 0 ≤ f j from ⟨hj, q⟩), decide_eq_true (show f j ≠ -9 by omega)]
          exact ⟨rfl, fun _ => rfl⟩
        · rw [if_neg q, decide_eq_false (show ¬ (j < mny u r0 ∧ 0 ≤ f j) from fun z => q z.2), decide_eq_false (show ¬ ((-9 : Int) ≠ -9) by omega)]
          exact ⟨rfl, fun z => by cases z⟩) (fun j hj => by
        show (x / 2097152 % 8).testBit j = false
        rw [d2, gset_bit hm3]
        exact decide_eq_false (fun z => by omega))
      rw [hRBu] at hgB
      have i0 : wr (3 * (xi : Int)) = ((3 * xi : Nat) : Int) := by rw [wr_of (x := 3 * (xi : Int)) ⟨by omega, by omega⟩]; omega
      have i1 : wr (((3 * xi : Nat) : Int) + 1) = ((3 * xi + 1 : Nat) : Int) := by rw [wr_of (x := ((3 * xi : Nat) : Int) + 1) ⟨by omega, by omega⟩]; omega
      have i2 : wr (((3 * xi : Nat) : Int) + 2) = ((3 * xi + 2 : Nat) : Int) := by rw [wr_of (x := ((3 * xi : Nat) : Int) + 2) ⟨by omega, by omega⟩]; omega
      have q0 : 0 ≤ ((3 * xi : Nat) : Int) ∧ ((3 * xi : Nat) : Int) < 1200 := ⟨by omega, by omega⟩
      have q1 : 0 ≤ ((3 * xi + 1 : Nat) : Int) ∧ ((3 * xi + 1 : Nat) : Int) < 1200 := ⟨by omega, by omega⟩
      have q2 : 0 ≤ ((3 * xi + 2 : Nat) : Int) ∧ ((3 * xi + 2 : Nat) : Int) < 1200 := ⟨by omega, by omega⟩
      have hbody : f_Re_askBy_2B u (ru : Int) (xi : Int) (k : Int) = bnd (f_Re_giveHead u (ru : Int) (u 28 (3 * xi)) (u 28 (3 * xi + 1)) (u 28 (3 * xi + 2))) fun v17 => if v17.2 = 0 then (f_Re_askBy_70 v17.1 (ru : Int) (xi : Int) (k : Int) ((5 * ru + k : Nat) : Int)) else (f_Re_askBy_71 v17.1 (ru : Int) (xi : Int) (k : Int) ((5 * ru + k : Nat) : Int) 1) := by
        unfold f_Re_askBy_2B
        rw [gd_t gr, Int.toNat_natCast, hF.cell (c := 16) (by omega) (by omega), r3, if_neg (by omega), ix, bl_s, gd_t g95, Int.toNat_natCast, e17, if_neg (by omega), i0, i1, i2, gd_t q0, gd_t q1, gd_t q2, Int.toNat_natCast, Int.toNat_natCast, Int.toNat_natCast]
      cases hg : gv (RBB w ru).ht (fun j => (x / 2097152 % 8).testBit j) (clm (x % 2097152)) 3 0 nov with
      | none =>
        rw [hg] at hgB
        obtain ⟨u1, z1, z2, z3⟩ := hgB
        obtain ⟨u', n', g', y1, y2, y3, y4, y5, y6, -⟩ := ih (k + 1) u1 n g (by omega) (hF.trans z2.j) z3 (hG.fr z2) hxn hgx hGS
        refine ⟨u', n', g', ?_, y2, y3, y4, y5, y6, Or.inr (fun k' v' y h1 h2 h3 h4 => by cases h4)⟩
        rw [go u1 (by rw [hbody, z1, bnd_s, if_pos rfl, e70 u1 k (by omega)])]
        exact y1
      | some v0 =>
        rw [hg] at hgB
        obtain ⟨u1, z1, z2, z3, z4, z5, z6⟩ := hgB
        have hRuL : RuBL u ru := (RuB_c hF.c hRu).L
        obtain ⟨hIt, hQ, hSl⟩ := walkB_it (w := u) (u := u1) (M := M) (n := N) (E := k) (ρ := ρ) (c := c) hRuL (by rw [hRBu]; exact hsafe) (BMod_congr (fun k hk => hF.cell (by omega) (by omega)) b1) b3 (VCs_3 (hF.cell (by omega) (by omega)) b2) (by rw [hRBu]; omega) z2 z3 z4 z5
        rw [hRBu, hF.SA] at hIt hQ
        rw [hF.SA] at hSl
        have hmem := fun y => AsQ_mem (u := y) hQ hSl (cand_CQ (R := RBB w ru) (n := N) (ρ := ρ)) z3.vv
        have hsm := fun y => AsQ_same (M := AM N ρ c) (M' := AM N ρ c) (R := RBB w ru) (R' := RBB w ru) (E := k) (v0 := vB u1) (v0' := v0) (u := y) (fun _ _ => Iff.rfl) (fun p hp => ⟨rfl, rfl, fun _ _ => rfl⟩) (fun x hx => by rw [← z6]; unfold K8; rw [if_pos hx])
        obtain ⟨hc1, -⟩ := r4.2.2.1 k hkl (by omega)
        obtain ⟨ra, hra, hra10, hra3, -⟩ := SA_co_in hc1
        obtain ⟨u2, n1, g1, t1, t2, t3, t4, t5, t6, t7⟩ := goalB_walk (A := AskQ (SA w) (RrB mm w) (AM N ρ c)) (g0 := g0) (xi := (xi : Int)) r1 b5 b4 (show k < 5 by omega) ⟨ra, hra, hra10, hra3⟩ (fun cc hcc => htm k cc hkl hcc) _ u1 n g hIt (hF.trans z2.j) z3 (fun e => by subst e; exact Nat.le_refl _) (hG.fr z2) hGS (fun y hy => by
          have hq := En_HQ hQ hSl (cand_CQ (R := RBB w ru) (n := N) (ρ := ρ)) k 0 (vB u1) [] y (by omega) (HQ.zero z3.vv) ((mem_en _ _ _ _ _).mp hy)
          refine ⟨hq.1, hrx.step ⟨RBB w ru, k, v0, K8 y.1, hRR, htg, hkl, at', hg, (hsm _).mp ((hmem _).mpr ⟨y, hy, rfl⟩), (goalQ_K8 (fun cc hcc => (htm k cc hkl hcc).1)).symm⟩⟩)
        have hxn1 : xi < n1 := Nat.lt_of_lt_of_le hxn t6.1
        obtain ⟨u', n', g', y1, y2, y3, y4, y5, y6, y7⟩ := ih (k + 1) u2 n1 g1 (by omega) t2 t3 t4 hxn1 (by rw [t6.2 xi hxn]; exact hgx) t5
        have h1 : f_Re_askBy_2B u (ru : Int) (xi : Int) (k : Int) = some (Sum.inl (u2, ((k + 1 : Nat) : Int))) := by
          rw [hbody, z1, bnd_s, if_neg z10]
          exact t1
        refine ⟨u', n', g', by rw [go u2 h1]; exact y1, y2, y3, y4, y5, t6.trans y6, ?_⟩
        have hn4 := y5.1
        by_cases q : n' = 400
        · exact Or.inl q
        · refine Or.inr (fun k' vv y h1 h2 h3 h4 h6 => ?_)
          have hn1 : n1 ≠ 400 := by have := y6.1; omega
          have evv : v0 = vv := Option.some.inj h4
          subst evv
          by_cases e : k' = k
          · subst e
            obtain ⟨x', hx', hxy⟩ := (hmem y).mp ((hsm y).mpr h6)
            rcases t7 with t7 | t7
            · exact absurd t7 hn1
            · have := t7 x' hx'
              rw [← hxy, goalQ_K8 (fun cc hcc => (htm k' cc hkl hcc).1)]
              exact this.x y6
          · rcases y7 with y7 | y7
            · exact absurd y7 q
            · exact y7 k' v0 y (by omega) h2 h3 hg h6
    · obtain ⟨u', n', g', y1, y2, y3, y4, y5, y6, y7⟩ := ih (k + 1) u n g (by omega) hF hV hG hxn hgx hGS
      have h1 : f_Re_askBy_2B u (ru : Int) (xi : Int) (k : Int) = some (Sum.inl (u, ((k + 1 : Nat) : Int))) := by
        unfold f_Re_askBy_2B
        rw [gd_t gr, Int.toNat_natCast, hF.cell (c := 16) (by omega) (by omega), r3, if_neg (by omega), ix, bl_s, gd_t g95, Int.toNat_natCast, e17, if_pos (by omega), e70 u k (by omega)]
      refine ⟨u', n', g', by rw [go u h1]; exact y1, y2, y3, y4, y5, y6, y7.imp (fun z => z) (fun y7 k' v' y h1 h2 h3 h4 h6 => ?_)⟩
      by_cases e : k' = k
      · rw [e] at h3
        exact absurd h3 at'
      · exact y7 k' v' y (by omega) h2 h3 h4 h6
theorem goalB_rules {w : World} {mm M N g0 x xi : Nat} {ρ c : Nat → Nat} (h : CgB w mm M N ρ c) (hrx : Reach (AskQ (SA w) (RrB mm w) (AM N ρ c)) g0 x) (hxi : xi < 400) : ∀ (j kk : Nat) (u : World) (n : Nat) (g : Nat → Nat), kk + j = mm → FrJ w u → VB u → GoB u n g → xi < n → g xi = x → GS (AskQ (SA w) (RrB mm w) (AM N ρ c)) g0 n g →
    ∃ (u' : World) (n' : Nat) (g' : Nat → Nat), f_Re_goals_98 u (xi : Int) (kk : Int) = some (Sum.inl (u', ((xi + 1 : Nat) : Int))) ∧ FrJ w u' ∧ VB u' ∧ GoB u' n' g' ∧ GS (AskQ (SA w) (RrB mm w) (AM N ρ c)) g0 n' g' ∧ GX n g n' g' ∧ (n' = 400 ∨ ∀ q, kk ≤ q → q < mm → w 13 q = 0 → (RBB w q).tg = ((x / 16777216 : Nat) : Int) → ∀ k' v' y, k' < (RBB w q).ln → ((RBB w q).fm k' = 0 ∨ (RBB w q).fm k' = 1) → gv (RBB w q).ht (fun j => (x / 2097152 % 8).testBit j) (clm (x % 2097152)) 3 0 nov = some v' → AsQ (AM N ρ c) (RBB w q) k' v' y → Inn n' g' (goalQ (SA w) (RBB w q) k' y)) := by
  have hp1 := h.2.1.1
  have hp2 := h.2.1.2.1
  have hb5 := h.1.2.2.2.2
  intro j
  induction j with
  | zero =>
    intro kk u n g hj hF hV hG hxn hgx hGS
    refine ⟨u, n, g, ?_, hF, hV, hG, hGS, GX.refl, Or.inr (fun q h1 h2 => by omega)⟩
    unfold f_Re_goals_98
    refine lp_out ?_
    show f_Re_goals_98B u (xi : Int) (kk : Int) = _
    unfold f_Re_goals_98B
    rw [hF 1 14 (by decide) (by decide) (by decide) (by decide) (by decide) (fun z => by omega), hp1, if_pos (by omega), bl_s, wr_of (x := (xi : Int) + 1) ⟨by omega, by omega⟩]
    rfl
  | succ j ih =>
    intro kk u n g hj hF hV hG hxn hgx hGS
    have hkk : kk < mm := by omega
    have hk12 : kk < 12 := by omega
    have e142 : ∀ u : World, f_Re_goals_142 u (xi : Int) (kk : Int) = some (Sum.inl (u, ((kk + 1 : Nat) : Int))) := fun u => by
      unfold f_Re_goals_142
      rw [bl_s, wr_of (x := (kk : Int) + 1) ⟨by omega, by omega⟩]
      rfl
    obtain ⟨r0, f, a1, a2, a3, a4, a5, a6⟩ := hG.2 xi hxn
    rw [hgx] at a4
    obtain ⟨d1, -, -⟩ := genc_dec (r := r0) a3
    rw [← a4] at d1
    have hbody : f_Re_goals_98B u (xi : Int) (kk : Int) = if w 13 kk = 0 then (if w 14 kk = ((x / 16777216 : Nat) : Int) then (bnd (f_Re_askBy u (kk : Int) (xi : Int)) fun v16 => f_Re_goals_142 v16 (xi : Int) (kk : Int)) else some (Sum.inl (u, ((kk + 1 : Nat) : Int)))) else some (Sum.inl (u, ((kk + 1 : Nat) : Int))) := by
      have g12 : 0 ≤ (kk : Int) ∧ (kk : Int) < 12 := ⟨by omega, by omega⟩
      have g19 : 0 ≤ (kk : Int) ∧ (kk : Int) < 19 := ⟨by omega, by omega⟩
      have g400 : 0 ≤ (xi : Int) ∧ (xi : Int) < 400 := ⟨by omega, by omega⟩
      unfold f_Re_goals_98B
      rw [hF 1 14 (by decide) (by decide) (by decide) (by decide) (by decide) (fun z => by omega), hp1, if_neg (by omega), gd_t g12, gd_t g19, gd_t g400, Int.toNat_natCast, Int.toNat_natCast, hF.cell (c := 13) (by omega) (by omega), hF.cell (c := 14) (by omega) (by omega), a5, e142, d1]
    have go : ∀ (u1 : World), f_Re_goals_98B u (xi : Int) (kk : Int) = some (Sum.inl (u1, ((kk + 1 : Nat) : Int))) → f_Re_goals_98 u (xi : Int) (kk : Int) = f_Re_goals_98 u1 (xi : Int) ((kk + 1 : Nat) : Int) := fun u1 h1 => by
      unfold f_Re_goals_98
      exact lp_step (F := fun z : (World × Int) => f_Re_goals_98B z.1 (xi : Int) z.2) (s := (u, (kk : Int))) h1
    by_cases act : w 13 kk = 0 ∧ w 14 kk = ((x / 16777216 : Nat) : Int)
    · obtain ⟨u1, n1, g1, t1, t2, t3, t4, t5, t6, t7⟩ := goalB_places h hkk act.1 act.2 hrx hxi (RBB w kk).ln 0 u n g (by omega) hF hV hG hxn hgx hGS
      have hxn1 : xi < n1 := Nat.lt_of_lt_of_le hxn t6.1
      obtain ⟨u', n', g', z1, z2, z3, z4, z5, z6, z7⟩ := ih (kk + 1) u1 n1 g1 (by omega) t2 t3 t4 hxn1 (by rw [t6.2 xi hxn]; exact hgx) t5
      have hby : f_Re_askBy u (kk : Int) (xi : Int) = some u1 := t1
      rw [if_pos act.1, if_pos act.2, hby, bnd_s, e142] at hbody
      refine ⟨u', n', g', ?_, z2, z3, z4, z5, t6.trans z6, ?_⟩
      · rw [go u1 hbody]
        exact z1
      · have hn4 := z5.1
        have hx7 := z6.1
        rcases t7 with t7 | t7
        · exact Or.inl (by omega)
        · refine z7.imp (fun z => z) (fun z7 q h1 h2 h3 h4 k' v' y h5 h6 h7 h8 => ?_)
          by_cases e : q = kk
          · subst e
            exact (t7 k' v' y (by omega) h5 h6 h7 h8).x z6
          · exact z7 q (by omega) h2 h3 h4 k' v' y h5 h6 h7 h8
    · obtain ⟨u', n', g', z1, z2, z3, z4, z5, z6, z7⟩ := ih (kk + 1) u n g (by omega) hF hV hG hxn hgx hGS
      have hb : f_Re_goals_98B u (xi : Int) (kk : Int) = some (Sum.inl (u, ((kk + 1 : Nat) : Int))) := by
        rw [hbody]
        by_cases q : w 13 kk = 0
        · rw [if_pos q, if_neg (fun z => act ⟨q, z⟩)]
        · rw [if_neg q]
      refine ⟨u', n', g', ?_, z2, z3, z4, z5, z6, z7.imp (fun z => z) (fun z7 q h1 h2 h3 h4 => ?_)⟩
      · rw [go u hb]
        exact z1
      · by_cases e : q = kk
        · subst e
          exact absurd ⟨h3, h4⟩ act
        · exact z7 q (by omega) h2 h3 h4
theorem goalB_main {w : World} {mm M N g0 : Nat} {ρ c : Nat → Nat} (h : CgB w mm M N ρ c) : ∀ (j i : Nat) (u : World) (n : Nat) (g : Nat → Nat), i + j = 400 → i ≤ n → FrJ w u → VB u → GoB u n g → GS (AskQ (SA w) (RrB mm w) (AM N ρ c)) g0 n g → (n = 400 ∨ ∀ i', i' < i → ∀ z, AskQ (SA w) (RrB mm w) (AM N ρ c) (g i') z → Inn n g z) →
    ∃ (u' : World) (n' : Nat) (g' : Nat → Nat), f_Re_goals_76 u (i : Int) = some (u', (n' : Int)) ∧ FrJ w u' ∧ VB u' ∧ GS (AskQ (SA w) (RrB mm w) (AM N ρ c)) g0 n' g' ∧ GX n g n' g' ∧ (n' = 400 ∨ ∀ i', i' < n' → ∀ z, AskQ (SA w) (RrB mm w) (AM N ρ c) (g' i') z → Inn n' g' z) := by
  intro j
  induction j with
  | zero =>
    intro i u n g hj hi hF hV hG hGS hcl
    have hn4 := hGS.1
    refine ⟨u, n, g, ?_, hF, hV, hGS, GX.refl, Or.inl (by omega)⟩
    unfold f_Re_goals_76
    refine lp_out ?_
    show f_Re_goals_76B u (i : Int) = _
    unfold f_Re_goals_76B f_Re_goals_154
    rw [hG.1, if_pos (by omega), bnd_s]
  | succ j ih =>
    intro i u n g hj hi hF hV hG hGS hcl
    have hn4 := hGS.1
    by_cases q1 : n ≤ i
    · refine ⟨u, n, g, ?_, hF, hV, hGS, GX.refl, ?_⟩
      · unfold f_Re_goals_76
        refine lp_out ?_
        show f_Re_goals_76B u (i : Int) = _
        unfold f_Re_goals_76B f_Re_goals_154
        rw [hG.1, if_pos (by omega), bnd_s]
      · exact hcl.imp (fun z => z) (fun z i' hi' => z i' (by omega))
    · by_cases q2 : n = 400
      · refine ⟨u, n, g, ?_, hF, hV, hGS, GX.refl, Or.inl q2⟩
        unfold f_Re_goals_76
        refine lp_out ?_
        show f_Re_goals_76B u (i : Int) = _
        unfold f_Re_goals_76B f_Re_goals_154
        rw [hG.1, if_neg (by omega), if_pos (by omega), bnd_s]
      · obtain ⟨u1, n1, g1, t1, t2, t3, t4, t5, t6, t7⟩ := goalB_rules (xi := i) h (hGS.2.2 i (by omega)) (by omega) mm 0 u n g (by omega) hF hV hG (by omega) rfl hGS
        have hx1 := t6.1
        have t7' : n1 = 400 ∨ ∀ z, AskQ (SA w) (RrB mm w) (AM N ρ c) (g i) z → Inn n1 g1 z := t7.imp (fun z => z) (fun t7 z hz => by
          obtain ⟨R, k, v', y, hR, htg, hk, hfm, hgv, hA, rfl⟩ := hz
          obtain ⟨q, hq, hact, rfl⟩ := hR
          exact t7 q (by omega) hq hact htg k v' y hk hfm hgv hA)
        have hcl1 : n1 = 400 ∨ ∀ i', i' < i + 1 → ∀ z, AskQ (SA w) (RrB mm w) (AM N ρ c) (g1 i') z → Inn n1 g1 z := by
          rcases t7' with t8 | t8
          · exact Or.inl t8
          · refine Or.inr (fun i' hi' z hz => ?_)
            rw [t6.2 i' (by omega)] at hz
            by_cases e : i' = i
            · rw [e] at hz
              exact t8 z hz
            · rcases hcl with hcl | hcl
              · exact absurd hcl q2
              · exact (hcl i' (by omega) z hz).x t6
        obtain ⟨u', n', g', z1, z2, z3, z4, z5, z6⟩ := ih (i + 1) u1 n1 g1 (by omega) (by omega) t2 t3 t4 t5 hcl1
        refine ⟨u', n', g', ?_, z2, z3, z4, t6.trans z5, z6⟩
        rw [← z1]
        unfold f_Re_goals_76
        refine lp_step (F := fun z : (World × Int) => f_Re_goals_76B z.1 z.2) (s := (u, (i : Int))) ?_
        show f_Re_goals_76B u (i : Int) = _
        unfold f_Re_goals_76B
        rw [hG.1, if_neg (by omega), if_neg (by omega)]
        exact t1
theorem goalB_all {w : World} {mm M N r : Nat} {ρ c : Nat → Nat} {x y z : Int} (h : CgB w mm M N ρ c) (hV : VB w) (hr : r < 10) (hd : 1 ≤ w 3 r) (hok : ∀ j, j < 3 → okC 2 (w 3 r).toNat j (pick x y z j)) :
    ∃ (u : World) (n : Nat) (g : Nat → Nat), (bnd (f_Re_ask (up w 1 32 0) (r : Int) x y z) fun v8 => f_Re_goals_76 v8 0) = some (u, (n : Int)) ∧ FrJ w u ∧ VB u ∧ GS (AskQ (SA w) (RrB mm w) (AM N ρ c)) (genc r (mny w r) (pick x y z)) n g ∧ (n = 400 ∨ (Inn n g (genc r (mny w r) (pick x y z)) ∧ ∀ i', i' < n → ∀ z, AskQ (SA w) (RrB mm w) (AM N ρ c) (g i') z → Inn n g z)) := by
  obtain ⟨w1, hw1⟩ : ∃ w1, w1 = up w 1 32 0 := ⟨_, rfl⟩
  rw [← hw1]
  have e2 : FrH w w1 := fun c k a b d => by
    rw [hw1]
    simp [up]
    intro e1 e2
    exact absurd ⟨e1, e2⟩ d
  have hT : WfT w1 := WfT_congr (fun c a b => e2.j.cell (by omega) (by omega)) h.1.2.2.2.2
  have e3 : w1 3 = w 3 := e2.j.cell (by omega) (by omega)
  have e4 : w1 4 = w 4 := e2.j.cell (by omega) (by omega)
  have em : mny w1 r = mny w r := by unfold mny; rw [e3, e4]
  obtain ⟨g0, hg0⟩ : ∃ g0, g0 = genc r (mny w r) (pick x y z) := ⟨_, rfl⟩
  have hG0 : GoB w1 0 (fun _ => 0) := ⟨by rw [hw1]; simp [up], fun i hi => by omega⟩
  have hGS0 : GS (AskQ (SA w) (RrB mm w) (AM N ρ c)) g0 0 (fun _ => 0) := ⟨by omega, fun i j hi => by omega, fun i hi => by omega⟩
  obtain ⟨w2, n1, g1, t1, t2, t3, t4, t5, t6⟩ := askB_step (x := x) (y := y) (z := z) hT hG0 hGS0 (by omega) hr (by rw [e3]; exact hd) (by rw [e3]; exact hok) (by rw [em, ← hg0]; exact Reach.refl)
  rw [em, ← hg0] at t6
  rw [← hg0]
  have hV2 : VB w2 := fun v hv => by
    have e23 : w2 23 = w 23 := funext fun k => (t2 23 k (by decide) (by decide) (fun z => by omega)).trans (e2 23 k (by decide) (by decide) (fun z => by omega))
    have e24 : w2 24 = w 24 := funext fun k => (t2 24 k (by decide) (by decide) (fun z => by omega)).trans (e2 24 k (by decide) (by decide) (fun z => by omega))
    rw [e24] at hv
    rw [e23]
    exact hV v hv
  obtain ⟨u, n, g, z1, z2, z3, z4, z5, z6⟩ := goalB_main h 400 0 w2 n1 g1 (by omega) (by omega) (e2.j.trans t2.j) hV2 t3 t4 (Or.inr (fun i' hi' => by omega))
  refine ⟨u, n, g, ?_, z2, z3, z4, ?_⟩
  · rw [t1, bnd_s]
    exact z1
  · rcases z6 with z6 | z6
    · exact Or.inl z6
    · exact Or.inr ⟨t6.x z5, z6⟩
