/-! THE CLASS: goals, the rules and all goals -/
theorem goalA_rules {w : World} {m t N g0 x : Nat} {ρ c : Nat → Nat} {Lc : Nat → List Nat} (h : CgA w m t N ρ c Lc) (hrx : Reach (AskQ (SA w) (RrA m w) (AM N ρ c)) g0 x) : ∀ (j kk : Nat) (u : World) (n : Nat) (g : Nat → Nat), kk + j = m → FrD w u → VV (u 104) → GoA u n g → GS (AskQ (SA w) (RrA m w) (AM N ρ c)) g0 n g → GL n g →
    ∃ u' n' g', f_Dm_askFor_23 u ((x / 16777216 : Nat) : Int) ((x / 2097152 % 8 : Nat) : Int) ((x % 2097152 : Nat) : Int) (kk : Int) = some u' ∧ FrD w u' ∧ VV (u' 104) ∧ GoA u' n' g' ∧ GS (AskQ (SA w) (RrA m w) (AM N ρ c)) g0 n' g' ∧ GL n' g' ∧ GX n g n' g' ∧ (n' = 400 ∨ ∀ q, kk ≤ q → q < m → w (22 + 4 * q) 2 = 0 → (RB w (22 + 4 * q)).tg = ((x / 16777216 : Nat) : Int) → ∀ k' v' y, k' < (RB w (22 + 4 * q)).ln → ((RB w (22 + 4 * q)).fm k' = 0 ∨ (RB w (22 + 4 * q)).fm k' = 1) → gv (RB w (22 + 4 * q)).ht (fun j => (x / 2097152 % 8).testBit j) (clm (x % 2097152)) 3 0 nov = some v' → AsQ (AM N ρ c) (RB w (22 + 4 * q)) k' v' y → Inn n' g' (goalQ (SA w) (RB w (22 + 4 * q)) k' y)) := by
  have hp1 := h.2.1.1.2.1
  have hp2 := h.2.1.1.2.2.1
  have hp3 := h.2.1.1.2.2.2.1
  intro j
  induction j with
  | zero =>
    intro kk u n g hj hF hV hG hGS hL
    refine ⟨u, n, g, ?_, hF, hV, hG, hGS, hL, GX.refl, Or.inr (fun q h1 h2 => by omega)⟩
    unfold f_Dm_askFor_23
    refine lp_out ?_
    show f_Dm_askFor_23B u _ _ _ (kk : Int) = _
    unfold f_Dm_askFor_23B
    rw [hF 14 (by omega) (by omega) (by omega) (by omega), hp1, if_pos (by omega)]
  | succ j ih =>
    intro kk u n g hj hF hV hG hGS hL
    have hkk : kk < m := by omega
    have hk12 : kk < 12 := by omega
    have hkd : kdA (22 + 4 * kk) = 1 := kd_rule kk hk12
    have hrl := rule_n (w := u) hk12 (by rw [hF 19 (by omega) (by omega) (by omega) (by omega)]; exact hp3 kk hk12)
    have hub : u (22 + 4 * kk) = w (22 + 4 * kk) := hF _ (by omega) (by omega) (by omega) (by omega)
    have e192 : ∀ u : World, f_Dm_askFor_192 u ((x / 16777216 : Nat) : Int) ((x / 2097152 % 8 : Nat) : Int) ((x % 2097152 : Nat) : Int) (kk : Int) = some (Sum.inl (u, ((kk + 1 : Nat) : Int))) := fun u => by
      unfold f_Dm_askFor_192
      rw [bl_s, wr_of (x := (kk : Int) + 1) ⟨by omega, by omega⟩]
      rfl
    have stop : f_Dm_askFor_67 u ((x / 16777216 : Nat) : Int) ((x / 2097152 % 8 : Nat) : Int) ((x % 2097152 : Nat) : Int) (kk : Int) (22 + 4 * kk) = some (Sum.inl (u, ((kk + 1 : Nat) : Int))) := by
      unfold f_Dm_askFor_67 f_Dm_askFor_68 f_Dm_askFor_73
      refine lp_out ?_
      show f_Dm_askFor_73B u _ _ _ (kk : Int) (22 + 4 * kk) 0 0 = _
      unfold f_Dm_askFor_73B
      rw [if_pos rfl, e192, bnd_s]
    have hbody : f_Dm_askFor_23B u ((x / 16777216 : Nat) : Int) ((x / 2097152 % 8 : Nat) : Int) ((x % 2097152 : Nat) : Int) (kk : Int) = if w (22 + 4 * kk) 2 = 0 then (if w (22 + 4 * kk) 1 = ((x / 16777216 : Nat) : Int) then f_Dm_askFor_68 u ((x / 16777216 : Nat) : Int) ((x / 2097152 % 8 : Nat) : Int) ((x % 2097152 : Nat) : Int) (kk : Int) (22 + 4 * kk) 1 else some (Sum.inl (u, ((kk + 1 : Nat) : Int)))) else some (Sum.inl (u, ((kk + 1 : Nat) : Int))) := by
      unfold f_Dm_askFor_23B
      rw [hF 14 (by omega) (by omega) (by omega) (by omega), hp1, if_neg (by omega), hrl, bnd_s, gd_t hkd, hub, stop]
    have go : ∀ (u1 : World), f_Dm_askFor_23B u ((x / 16777216 : Nat) : Int) ((x / 2097152 % 8 : Nat) : Int) ((x % 2097152 : Nat) : Int) (kk : Int) = some (Sum.inl (u1, ((kk + 1 : Nat) : Int))) → f_Dm_askFor_23 u ((x / 16777216 : Nat) : Int) ((x / 2097152 % 8 : Nat) : Int) ((x % 2097152 : Nat) : Int) (kk : Int) = f_Dm_askFor_23 u1 ((x / 16777216 : Nat) : Int) ((x / 2097152 % 8 : Nat) : Int) ((x % 2097152 : Nat) : Int) ((kk + 1 : Nat) : Int) := fun u1 h1 => by
      unfold f_Dm_askFor_23
      exact lp_step (F := fun z : (World × Int) => f_Dm_askFor_23B z.1 ((x / 16777216 : Nat) : Int) ((x / 2097152 % 8 : Nat) : Int) ((x % 2097152 : Nat) : Int) z.2) (s := (u, (kk : Int))) h1
    by_cases act : w (22 + 4 * kk) 2 = 0 ∧ w (22 + 4 * kk) 1 = ((x / 16777216 : Nat) : Int)
    · obtain ⟨u1, n1, g1, t1, t2, t3, t4, t5, t6, t7, t8⟩ := goalA_places h hkk act.1 act.2 hrx (RB w (22 + 4 * kk)).ln 0 u n g (by omega) hF hV hG hGS hL
      obtain ⟨u', n', g', z1, z2, z3, z4, z5, z6, z7, z8⟩ := ih (kk + 1) u1 n1 g1 (by omega) t2 t3 t4 t5 t6
      rw [if_pos act.1, if_pos act.2] at hbody
      refine ⟨u', n', g', ?_, z2, z3, z4, z5, z6, t7.trans z7, ?_⟩
      · rw [go u1 (hbody.trans t1)]
        exact z1
      · have hn4 := z5.1
        have hx7 := z7.1
        rcases t8 with t8 | t8
        · exact Or.inl (by omega)
        · refine z8.imp (fun z => z) (fun z8 q h1 h2 h3 h4 k' v' y h5 h6 h7 h8 => ?_)
          by_cases e : q = kk
          · subst e
            exact (t8 k' v' y (by omega) h5 h6 h7 h8).x z7
          · exact z8 q (by omega) h2 h3 h4 k' v' y h5 h6 h7 h8
    · obtain ⟨u', n', g', z1, z2, z3, z4, z5, z6, z7, z8⟩ := ih (kk + 1) u n g (by omega) hF hV hG hGS hL
      have hb : f_Dm_askFor_23B u ((x / 16777216 : Nat) : Int) ((x / 2097152 % 8 : Nat) : Int) ((x % 2097152 : Nat) : Int) (kk : Int) = some (Sum.inl (u, ((kk + 1 : Nat) : Int))) := by
        rw [hbody]
        by_cases q : w (22 + 4 * kk) 2 = 0
        · rw [if_pos q, if_neg (fun z => act ⟨q, z⟩)]
        · rw [if_neg q]
      refine ⟨u', n', g', ?_, z2, z3, z4, z5, z6, z7, z8.imp (fun z => z) (fun z8 q h1 h2 h3 h4 => ?_)⟩
      · rw [go u hb]
        exact z1
      · by_cases e : q = kk
        · subst e
          exact absurd ⟨h3, h4⟩ act
        · exact z8 q (by omega) h2 h3 h4
theorem goalA_ask {w : World} {m t N g0 x : Nat} {ρ c : Nat → Nat} {Lc : Nat → List Nat} (h : CgA w m t N ρ c Lc) (hx : x < 167772160) (hrx : Reach (AskQ (SA w) (RrA m w) (AM N ρ c)) g0 x) {u : World} {n : Nat} {g : Nat → Nat} (hF : FrD w u) (hV : VV (u 104)) (hG : GoA u n g) (hGS : GS (AskQ (SA w) (RrA m w) (AM N ρ c)) g0 n g) (hL : GL n g) :
    ∃ u' n' g', f_Dm_askFor u (x : Int) = some u' ∧ FrD w u' ∧ VV (u' 104) ∧ GoA u' n' g' ∧ GS (AskQ (SA w) (RrA m w) (AM N ρ c)) g0 n' g' ∧ GL n' g' ∧ GX n g n' g' ∧ (n' = 400 ∨ ∀ z, AskQ (SA w) (RrA m w) (AM N ρ c) x z → Inn n' g' z) := by
  obtain ⟨u', n', g', z1, z2, z3, z4, z5, z6, z7, z8⟩ := goalA_rules h hrx m 0 u n g (by omega) hF hV hG hGS hL
  refine ⟨u', n', g', ?_, z2, z3, z4, z5, z6, z7, z8.imp (fun z => z) (fun z8 z hz => ?_)⟩
  · have s1 : ishr (x : Int) 24 = ((x / 16777216 : Nat) : Int) := ishr_n (a := x) (k := 24) (by omega) (by omega)
    have s2 : ishr (x : Int) 21 = ((x / 2097152 : Nat) : Int) := ishr_n (a := x) (k := 21) (by omega) (by omega)
    have s3 : iand ((x / 2097152 : Nat) : Int) 7 = ((x / 2097152 % 8 : Nat) : Int) := by
      have e : (x / 2097152) &&& 7 = x / 2097152 % 8 := Nat.and_two_pow_sub_one_eq_mod (x / 2097152) 3
      have := iand_n (a := x / 2097152) (b := 7) (by omega) (by omega)
      rw [e] at this
      exact this
    have s4 : iand (x : Int) 2097151 = ((x % 2097152 : Nat) : Int) := by
      have e : x &&& 2097151 = x % 2097152 := Nat.and_two_pow_sub_one_eq_mod x 21
      have := iand_n (a := x) (b := 2097151) (by omega) (by omega)
      rw [e] at this
      exact this
    unfold f_Dm_askFor
    rw [s1, bl_s, s2, s3, bl_s, s4, bl_s]
    exact z1
  · obtain ⟨R, k, v', y, hR, htg, hk, hfm, hgv, hA, rfl⟩ := hz
    obtain ⟨q, hq, hact, rfl⟩ := hR
    exact z8 q (by omega) hq hact htg k v' y hk hfm hgv hA
theorem goalA_main {w : World} {m t N g0 : Nat} {ρ c : Nat → Nat} {Lc : Nat → List Nat} (h : CgA w m t N ρ c Lc) : ∀ (j i : Nat) (u : World) (n : Nat) (g : Nat → Nat), i + j = 400 → i ≤ n → FrD w u → VV (u 104) → GoA u n g → GS (AskQ (SA w) (RrA m w) (AM N ρ c)) g0 n g → GL n g → (n = 400 ∨ ∀ i', i' < i → ∀ z, AskQ (SA w) (RrA m w) (AM N ρ c) (g i') z → Inn n g z) →
    ∃ (u' : World) (n' : Nat) (g' : Nat → Nat), f_Dm_goals_77 u (i : Int) = some (u', 0, (n' : Int)) ∧ FrD w u' ∧ VV (u' 104) ∧ GS (AskQ (SA w) (RrA m w) (AM N ρ c)) g0 n' g' ∧ GX n g n' g' ∧ (n' = 400 ∨ ∀ i', i' < n' → ∀ z, AskQ (SA w) (RrA m w) (AM N ρ c) (g' i') z → Inn n' g' z) := by
  intro j
  induction j with
  | zero =>
    intro i u n g hj hi hF hV hG hGS hL hcl
    have hn4 := hGS.1
    refine ⟨u, n, g, ?_, hF, hV, hGS, GX.refl, Or.inl (by omega)⟩
    unfold f_Dm_goals_77
    refine lp_out ?_
    show f_Dm_goals_77B u (i : Int) = _
    unfold f_Dm_goals_77B f_Dm_goals_121
    rw [hG.1, if_pos (by omega), bnd_s]
  | succ j ih =>
    intro i u n g hj hi hF hV hG hGS hL hcl
    have hn4 := hGS.1
    by_cases q1 : n ≤ i
    · refine ⟨u, n, g, ?_, hF, hV, hGS, GX.refl, ?_⟩
      · unfold f_Dm_goals_77
        refine lp_out ?_
        show f_Dm_goals_77B u (i : Int) = _
        unfold f_Dm_goals_77B f_Dm_goals_121
        rw [hG.1, if_pos (by omega), bnd_s]
      · exact hcl.imp (fun z => z) (fun z i' hi' => z i' (by omega))
    · by_cases q2 : n = 400
      · refine ⟨u, n, g, ?_, hF, hV, hGS, GX.refl, Or.inl q2⟩
        unfold f_Dm_goals_77
        refine lp_out ?_
        show f_Dm_goals_77B u (i : Int) = _
        unfold f_Dm_goals_77B f_Dm_goals_121
        rw [hG.1, if_neg (by omega), if_pos (by omega), bnd_s]
      · obtain ⟨u1, n1, g1, t1, t2, t3, t4, t5, t6, t7, t8⟩ := goalA_ask h (hL i (by omega)) (hGS.2.2 i (by omega)) hF hV hG hGS hL
        have hx1 := t7.1
        have hcl1 : n1 = 400 ∨ ∀ i', i' < i + 1 → ∀ z, AskQ (SA w) (RrA m w) (AM N ρ c) (g1 i') z → Inn n1 g1 z := by
          rcases t8 with t8 | t8
          · exact Or.inl t8
          · refine Or.inr (fun i' hi' z hz => ?_)
            rw [t7.2 i' (by omega)] at hz
            by_cases e : i' = i
            · rw [e] at hz
              exact t8 z hz
            · rcases hcl with hcl | hcl
              · exact absurd hcl q2
              · exact (hcl i' (by omega) z hz).x t7
        obtain ⟨u', n', g', z1, z2, z3, z4, z5, z6⟩ := ih (i + 1) u1 n1 g1 (by omega) (by omega) t2 t3 t4 t5 t6 hcl1
        refine ⟨u', n', g', ?_, z2, z3, z4, t7.trans z5, z6⟩
        have hga : f_Go_goalAt u (i : Int) = some (g i : Int) := by
          unfold f_Go_goalAt
          rw [if_neg (by omega), if_neg (by omega), gd_t ⟨by omega, by omega⟩, Int.toNat_natCast, hG.2.1 i (by omega)]
        rw [← z1]
        unfold f_Dm_goals_77
        refine lp_step (F := fun z : (World × Int) => f_Dm_goals_77B z.1 z.2) (s := (u, (i : Int))) ?_
        show f_Dm_goals_77B u (i : Int) = _
        unfold f_Dm_goals_77B
        rw [hG.1, if_neg (by omega), if_neg (by omega), hga, bnd_s, t1, bnd_s, bl_s, wr_of (x := (i : Int) + 1) ⟨by omega, by omega⟩]
        rfl
theorem emptyGo_n {w : World} : ∃ w', f_Go_empty w = some w' ∧ FrG w w' ∧ w' 153 = w 153 ∧ w' 152 0 = 0 ∧ ∀ x, x < 1024 → w' 154 x = 0 := by
  have loop : ∀ (j i : Nat) (u : World), i + j = 1024 → FrG w u → u 153 = w 153 → u 152 0 = 0 → (∀ x, x < i → u 154 x = 0) → ∃ w', f_Go_empty_7 u (i : Int) = some w' ∧ FrG w w' ∧ w' 153 = w 153 ∧ w' 152 0 = 0 ∧ ∀ x, x < 1024 → w' 154 x = 0 := by
    intro j
    induction j with
    | zero =>
      intro i u hj hF h3 h2 h4
      refine ⟨u, ?_, hF, h3, h2, fun x hx => h4 x (by omega)⟩
      unfold f_Go_empty_7
      refine lp_out ?_
      show f_Go_empty_7B u (i : Int) = _
      unfold f_Go_empty_7B
      rw [if_pos (by omega)]
    | succ j ih =>
      intro i u hj hF h3 h2 h4
      obtain ⟨w', p1, p2⟩ := ih (i + 1) (up u 154 i 0) (by omega) (fun c a b d => by
        funext k
        have := congrFun (hF c a b d) k
        rw [← this]
        simp [up, d]) (by
        funext k
        have := congrFun h3 k
        rw [← this]
        simp [up]) (by
        rw [← h2]
        simp [up]) (fun x hx => by
        by_cases e : x = i
        · simp [up, e]
        · have : up u 154 i 0 154 x = u 154 x := by simp [up, e]
          rw [this]
          exact h4 x (by omega))
      refine ⟨w', ?_, p2⟩
      rw [← p1]
      unfold f_Go_empty_7
      refine lp_step (F := fun z : (World × Int) => f_Go_empty_7B z.1 z.2) (s := (u, (i : Int))) ?_
      show f_Go_empty_7B u (i : Int) = _
      unfold f_Go_empty_7B
      rw [if_neg (by omega), gd_t ⟨by omega, by omega⟩, Int.toNat_natCast, bl_s, bl_s, wr_of (x := (i : Int) + 1) ⟨by omega, by omega⟩]
      rfl
  obtain ⟨w', p1, p2⟩ := loop 1024 0 (up w 152 0 0) (by omega) (fun c a b d => by funext k; simp [up, a]) (by funext k; simp [up]) (by simp [up]) (fun x hx => by omega)
  refine ⟨w', ?_, p2⟩
  unfold f_Go_empty
  rw [bl_s]
  exact p1
theorem goalA_all {w : World} {m t N r : Nat} {ρ c : Nat → Nat} {Lc : Nat → List Nat} {x y z : Int} (h : CgA w m t N ρ c Lc) (hV : VV (w 104)) (hr : r < 10) (hd : 1 ≤ w 3 r) (hok : ∀ j, j < mny w r → pick x y z j < 128) :
    ∃ (u : World) (n : Nat) (g : Nat → Nat), (bnd (f_Go_empty w) fun v12 => bnd (f_Sc_goalOf v12 (r : Int) x y z) fun v15 => bnd (f_Go_ask v12 v15) fun v18 => f_Dm_goals_77 v18 0) = some (u, 0, (n : Int)) ∧ FrD w u ∧ VV (u 104) ∧ GS (AskQ (SA w) (RrA m w) (AM N ρ c)) (genc r (mny w r) (pick x y z)) n g ∧ (n = 400 ∨ (Inn n g (genc r (mny w r) (pick x y z)) ∧ ∀ i', i' < n → ∀ z, AskQ (SA w) (RrA m w) (AM N ρ c) (g i') z → Inn n g z)) := by
  obtain ⟨w1, e1, e2, e3, e4, e5⟩ := emptyGo_n (w := w)
  have hS := h.1.2.2
  have hS1 : WfS w1 := WfS_congr (fun c a d k => by rw [e2 c (by omega) (by omega) (by omega)]) hS
  have em : mny w1 r = mny w r := by unfold mny; rw [e2 3 (by omega) (by omega) (by omega), e2 4 (by omega) (by omega) (by omega)]
  have hgo := goalOf_n (x := x) (y := y) (z := z) hS1 hr (by rw [e2 3 (by omega) (by omega) (by omega)]; exact hd) (by rw [em]; exact hok)
  rw [em] at hgo
  obtain ⟨g0, hg0⟩ : ∃ g0, g0 = genc r (mny w r) (pick x y z) := ⟨_, rfl⟩
  have hlt : g0 < 167772160 := by rw [hg0]; exact genc_lt hr hok
  rw [← hg0] at hgo ⊢
  have hG0 : GoA w1 0 (fun _ => 0) := ⟨e4, fun i hi => by omega, fun x hx => by rw [e5 x hx]; exact ⟨by omega, by omega⟩, fun x y hx hy _ hn => absurd (e5 x hx) hn, fun i hi => by omega⟩
  have hGS0 : GS (AskQ (SA w) (RrA m w) (AM N ρ c)) g0 0 (fun _ => 0) := ⟨by omega, fun i j hi => by omega, fun i hi => by omega⟩
  obtain ⟨w2, n1, g1, t1, t2, t3, t4, t5, t6, t7⟩ := askA_step (A := AskQ (SA w) (RrA m w) (AM N ρ c)) hG0 hGS0 (fun i hi => by omega) (by omega) hlt Reach.refl
  obtain ⟨u, n, g, z1, z2, z3, z4, z5, z6⟩ := goalA_main h 400 0 w2 n1 g1 (by omega) (by omega) (e2.d.trans t2.d) (by rw [t2 104 (by omega) (by omega) (by omega), e2 104 (by omega) (by omega) (by omega)]; exact hV) t3 t4 t5 (Or.inr (fun i' hi' => by omega))
  refine ⟨u, n, g, ?_, z2, z3, z4, ?_⟩
  · rw [e1, bnd_s, hgo, bnd_s, t1, bnd_s]
    exact z1
  · rcases z6 with z6 | z6
    · exact Or.inl z6
    · exact Or.inr ⟨t7.x z5, z6⟩
