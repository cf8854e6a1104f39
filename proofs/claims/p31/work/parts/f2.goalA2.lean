/-! THE CLASS: goals, all that a goal asks for -/
def FrD (w w' : World) : Prop := ∀ c, ¬ (103 ≤ c ∧ c ≤ 106) → c ≠ 152 → c ≠ 153 → c ≠ 154 → w' c = w c
theorem FrD.refl {w : World} : FrD w w := fun _ _ _ _ _ => rfl
theorem FrD.trans {w w' w'' : World} (h : FrD w w') (h' : FrD w' w'') : FrD w w'' := fun c a b d e => (h' c a b d e).trans (h c a b d e)
theorem Fr3.d {w w' : World} (h : Fr3 w w') : FrD w w' := fun c a _ _ _ => h c a
theorem FrG.d {w w' : World} (h : FrG w w') : FrD w w' := fun c _ a b d => h c a b d
theorem FrD.SA {w w' : World} (h : FrD w w') : SA w' = SA w := SA_c5 (fun c _ _ => h c (by omega) (by omega) (by omega) (by omega))
theorem FrD.R {w w' : World} (h : FrD w w') {b : Nat} (hkb : kdA b = 1) : RB w' b = RB w b := by
  have := kd1 hkb
  exact RB_congr (h b (by omega) (by omega) (by omega) (by omega)) (h _ (by omega) (by omega) (by omega) (by omega)) (h _ (by omega) (by omega) (by omega) (by omega)) (h _ (by omega) (by omega) (by omega) (by omega))
theorem FrD.M {w w' : World} (h : FrD w w') {t n : Nat} {ρ c : Nat → Nat} {L : Nat → List Nat} (hkt : kdA t = 6) (hA : AMod w t n ρ c L) : AMod w' t n ρ c L := by
  have h1 := kd6 hkt
  have h2 := kd6_hi hkt
  exact AMod_congr (fun c _ _ => h c (by omega) (by omega) (by omega) (by omega)) (fun c _ _ => h c (by omega) (by omega) (by omega) (by omega)) hA
theorem genc_congr {r k : Nat} {f f' : Nat → Int} (h : ∀ j, j < 3 → f' j = f j) : genc r k f' = genc r k f := by
  have hb : ∀ j, j < 3 → gbit k f' j = gbit k f j ∧ gval k f' j = gval k f j := fun j hj => by
    unfold gbit gval
    rw [h j hj]
    exact ⟨rfl, rfl⟩
  unfold genc gset gcode
  rw [(hb 0 (by omega)).1, (hb 1 (by omega)).1, (hb 2 (by omega)).1, (hb 0 (by omega)).2, (hb 1 (by omega)).2, (hb 2 (by omega)).2]
theorem goalQ_K8 {D : SH} {R : RU} {k : Nat} {v : Nat → Int} (ht : ∀ c, c < 3 → -8 ≤ R.tm k c) : goalQ D R k (K8 v) = goalQ D R k v := genc_congr (fun j hj => K8_vl (ht j hj))
theorem goalQ_lt {D : SH} (hD : WfD D) {R : RU} {k r : Nat} {v : Nat → Int} (hr : R.sj k = (r : Int)) (hr10 : r < 10) (hV : VV v) (ht : ∀ c, c < 3 → -8 ≤ R.tm k c ∧ R.tm k c < 128) : goalQ D R k v < 167772160 := by
  unfold goalQ
  rw [hr, Int.toNat_natCast]
  exact genc_lt hr10 (fun j hj => (vl_rng hV (ht j (by have := mnyD_3 hD (r := (r : Int)); omega))).2)
theorem goalWa_n {u : World} {b k : Nat} {v : Nat → Int} (hb : (u 103 1).toNat = b) (hkb : kdA b = 1) (hS : WfS u) (hk : k < 5) (hv : u 104 = v) (hV : VV v) (hat : ∃ r : Nat, (RB u b).sj k = (r : Int) ∧ r < 10 ∧ 1 ≤ u 3 r) (ht : ∀ c, c < 3 → -8 ≤ (RB u b).tm k c ∧ (RB u b).tm k c < 128) : f_Wa_goal u (k : Int) = some ((goalQ (SA u) (RB u b) k v : Nat) : Int) := by
  obtain ⟨r, hr, hr10, hrd⟩ := hat
  have e2 : u (b + 2) k = (r : Int) := hr
  have k0 := termOf_n (w := u) (b := b) (c := 0) (show k < 6 by omega) (by omega)
  have k1 := termOf_n (w := u) (b := b) (c := 1) (show k < 6 by omega) (by omega)
  have k2 := termOf_n (w := u) (b := b) (c := 2) (show k < 6 by omega) (by omega)
  have k0 : f_Bo_termOf u b (k : Int) 0 = some ((RB u b).tm k 0) := k0
  have k1 : f_Bo_termOf u b (k : Int) 1 = some ((RB u b).tm k 1) := k1
  have k2 : f_Bo_termOf u b (k : Int) 2 = some ((RB u b).tm k 2) := k2
  have hm3 : mny u r ≤ 3 := by have := (hS r hr10).1; unfold mny; split <;> omega
  have hpk : ∀ j, j < 3 → pick (vl v ((RB u b).tm k 0)) (vl v ((RB u b).tm k 1)) (vl v ((RB u b).tm k 2)) j = vl v ((RB u b).tm k j) := fun j hj => by
    have : j = 0 ∨ j = 1 ∨ j = 2 := by omega
    rcases this with rfl | rfl | rfl <;> rfl
  have hgo := goalOf_n (x := vl v ((RB u b).tm k 0)) (y := vl v ((RB u b).tm k 1)) (z := vl v ((RB u b).tm k 2)) hS hr10 hrd (fun j hj => by
    rw [hpk j (by omega)]
    exact (vl_rng hV (ht j (by omega))).2)
  have hq : goalQ (SA u) (RB u b) k v = genc r (mny u r) (pick (vl v ((RB u b).tm k 0)) (vl v ((RB u b).tm k 1)) (vl v ((RB u b).tm k 2))) := by
    unfold goalQ
    rw [hr, Int.toNat_natCast, mny_D hS.T hr10]
    exact (genc_congr hpk).symm
  unfold f_Wa_goal
  rw [hb, gd_t hkb, subjectOf_n hk, bnd_s, gd_t hkb, k0, bnd_s, valueOf_n (ht 0 (by omega)), bnd_s, gd_t hkb, k1, bnd_s, valueOf_n (ht 1 (by omega)), bnd_s, gd_t hkb, k2, bnd_s, valueOf_n (ht 2 (by omega)), bnd_s, hv, e2, hgo, bnd_s, hq]
def GL (n : Nat) (g : Nat → Nat) : Prop := ∀ i, i < n → g i < 167772160
/-- asked for, one goal more or none -/
theorem askA_step {A : Nat → Nat → Prop} {w : World} {g0 n x : Nat} {g : Nat → Nat} (hG : GoA w n g) (hS : GS A g0 n g) (hL : GL n g) (hn : n < 400) (hx : x < 167772160) (hr : Reach A g0 x) : ∃ w' n' g', f_Go_ask w (x : Int) = some w' ∧ FrG w w' ∧ GoA w' n' g' ∧ GS A g0 n' g' ∧ GL n' g' ∧ GX n g n' g' ∧ Inn n' g' x := by
  rcases askA_n (x := x) hG hn (by omega) with ⟨h1, h2⟩ | ⟨h1, w', h2, h3, h4⟩
  · exact ⟨w, n, g, h2, FrG.refl, hG, hS, hL, GX.refl, h1⟩
  · refine ⟨w', n + 1, upn g n x, h2, h3, h4, hS.add hn h1 hr, fun i hi => ?_, GX.add, ⟨n, by omega, upn_eq⟩⟩
    by_cases e : i = n
    · rw [e, upn_eq]; exact hx
    · rw [upn_ne e]; exact hL i (by omega)
theorem goalA_walk {A : Nat → Nat → Prop} {w : World} {b k g0 : Nat} {rg sm cd kk : Int} (hkb : kdA b = 1) (hS : WfS w) (hk : k < 5) (hat : ∃ r : Nat, (RB w b).sj k = (r : Int) ∧ r < 10 ∧ 1 ≤ w 3 r) (ht : ∀ c, c < 3 → -8 ≤ (RB w b).tm k c ∧ (RB w b).tm k c < 128) : ∀ (l : List ((Nat → Int) × List Nat)) (u : World) (n : Nat) (g : Nat → Nat) (i : Nat), ItA b l u → FrD w u → (u 103 1).toNat = b → VV (u 104) → GoA u n g → GS A g0 n g → GL n g → (∀ y, y ∈ l → VV y.1 ∧ Reach A g0 (goalQ (SA w) (RB w b) k y.1)) → i + l.length < 10000000 →
    ∃ u' n' g', f_Dm_askFor_128 u rg sm cd kk b 1 (k : Int) (i : Int) = some (Sum.inl (u', 1, ((k + 1 : Nat) : Int))) ∧ FrD w u' ∧ VV (u' 104) ∧ GoA u' n' g' ∧ GS A g0 n' g' ∧ GL n' g' ∧ GX n g n' g' ∧ (n' = 400 ∨ ∀ y, y ∈ l → Inn n' g' (goalQ (SA w) (RB w b) k y.1)) := by
  have e186 : ∀ u : World, f_Dm_askFor_186 u rg sm cd kk b 1 (k : Int) = some (Sum.inl (u, 1, ((k + 1 : Nat) : Int))) := fun u => by
    unfold f_Dm_askFor_186
    rw [bl_s, wr_of (x := (k : Int) + 1) ⟨by omega, by omega⟩]
    rfl
  intro l
  induction l with
  | nil =>
    intro u n g i hI hF hub hV hG hGS hL _ hi
    have hi : i < 10000000 := by simpa using hi
    by_cases q : n = 400
    · refine ⟨u, n, g, ?_, hF, hV, hG, hGS, hL, GX.refl, Or.inl q⟩
      unfold f_Dm_askFor_128
      refine lp_out ?_
      show f_Dm_askFor_128B u rg sm cd kk b 1 (k : Int) (i : Int) = _
      unfold f_Dm_askFor_128B
      rw [if_neg (by omega), if_neg z10, hG.1, if_pos (by omega), e186, bnd_s]
    · have hn : n < 400 := by have := hGS.1; omega
      obtain ⟨u1, q1, q2, q3⟩ := hI
      have hG1 : GoA u1 n g := by
        unfold GoA at hG ⊢
        rw [q2.cell (show 152 < 103 ∨ 106 < 152 by omega), q2.cell (show 153 < 103 ∨ 106 < 153 by omega), q2.cell (show 154 < 103 ∨ 106 < 154 by omega)]
        exact hG
      refine ⟨u1, n, g, ?_, hF.trans q2.r3.d, q3, hG1, hGS, hL, GX.refl, Or.inr (fun y hy => absurd hy List.not_mem_nil)⟩
      unfold f_Dm_askFor_128
      refine lp_out ?_
      show f_Dm_askFor_128B u rg sm cd kk b 1 (k : Int) (i : Int) = _
      unfold f_Dm_askFor_128B
      rw [if_neg (by omega), if_neg z10, hG.1, if_neg (by omega), q1, bnd_s, if_pos rfl, e186, bnd_s]
  | cons a l ih =>
    intro u n g i hI hF hub hV hG hGS hL hl hi
    rw [List.length_cons] at hi
    by_cases q : n = 400
    · refine ⟨u, n, g, ?_, hF, hV, hG, hGS, hL, GX.refl, Or.inl q⟩
      unfold f_Dm_askFor_128
      refine lp_out ?_
      show f_Dm_askFor_128B u rg sm cd kk b 1 (k : Int) (i : Int) = _
      unfold f_Dm_askFor_128B
      rw [if_neg (by omega), if_neg z10, hG.1, if_pos (by omega), e186, bnd_s]
    · have hn : n < 400 := by have := hGS.1; omega
      obtain ⟨u1, q1, q2, q3, q4, -, q5⟩ := hI
      obtain ⟨hVa, hra⟩ := hl a List.mem_cons_self
      have hF1 := hF.trans q2.r3.d
      have hG1 : GoA u1 n g := by
        unfold GoA at hG ⊢
        rw [q2.cell (show 152 < 103 ∨ 106 < 152 by omega), q2.cell (show 153 < 103 ∨ 106 < 153 by omega), q2.cell (show 154 < 103 ∨ 106 < 154 by omega)]
        exact hG
      have hub1 : (u1 103 1).toNat = b := by rw [q2.f ⟨by omega, by omega⟩]; exact hub
      have hRB : RB u1 b = RB w b := hF1.R hkb
      have hgo := goalWa_n (u := u1) (k := k) hub1 hkb (WfS_congr (fun c a d k => by rw [hF1 c (by omega) (by omega) (by omega) (by omega)]) hS) hk q4 hVa (by rw [hRB, hF1 3 (by omega) (by omega) (by omega) (by omega)]; exact hat) (by rw [hRB]; exact ht)
      rw [hRB, hF1.SA] at hgo
      obtain ⟨r, hr, hr10, -⟩ := id hat
      obtain ⟨u2, n1, g1, t1, t2, t3, t4, t5, t6, t7⟩ := askA_step hG1 hGS hL hn (goalQ_lt hS.D hr hr10 hVa ht) hra
      have hstep : f_Dm_askFor_128B u rg sm cd kk b 1 (k : Int) (i : Int) = some (Sum.inl (u2, ((i + 1 : Nat) : Int))) := by
        unfold f_Dm_askFor_128B
        rw [if_neg (by omega), if_neg z10, hG.1, if_neg (by omega), q1, bnd_s, if_neg z10]
        show bnd (f_Wa_goal u1 (k : Int)) _ = _
        rw [hgo, bnd_s]
        show bnd (f_Go_ask u1 _) _ = _
        rw [t1, bnd_s, bl_s, wr_of (x := (i : Int) + 1) ⟨by omega, by omega⟩]
        rfl
      obtain ⟨u', n', g', p1, p2, p3, p4, p5, p6, p7, p8⟩ := ih u2 n1 g1 (i + 1) (q5 u2 (fun c hc => t2 c (by omega) (by omega) (by omega))) (hF1.trans t2.d) (by rw [t2 103 (by omega) (by omega) (by omega)]; exact hub1) (by rw [t2 104 (by omega) (by omega) (by omega)]; exact q3) t3 t4 t5 (fun y hy => hl y (List.mem_cons_of_mem _ hy)) (by omega)
      refine ⟨u', n', g', ?_, p2, p3, p4, p5, p6, t6.trans p7, ?_⟩
      · rw [← p1]
        unfold f_Dm_askFor_128
        exact lp_step (F := fun z : (World × Int) => f_Dm_askFor_128B z.1 rg sm cd kk b 1 (k : Int) z.2) (s := (u, (i : Int))) hstep
      · rcases p8 with e | h
        · exact Or.inl e
        · refine Or.inr (fun y hy => ?_)
          rcases List.mem_cons.mp hy with e | hy
          · rw [e]; exact t7.x p7
          · exact h y hy
/-- what both need of a rule and a model to look for goals -/
def CgA (w : World) (m t N : Nat) (ρ c : Nat → Nat) (Lc : Nat → List Nat) : Prop :=
  (AMod w t N ρ c Lc ∧ VCs w N ρ c ∧ WfS w) ∧ (PgA w m ∧ ∀ i, i < m → SafeL (RB w (22 + 4 * i)) ∧ SafeH (RB w (22 + 4 * i)) ∧ Few (RB w (22 + 4 * i))) ∧ f_Dm_present w = some t ∧ kdA t = 6
theorem goalA_places {w : World} {m t N kk g0 x : Nat} {ρ c : Nat → Nat} {Lc : Nat → List Nat} (h : CgA w m t N ρ c Lc) (hkk : kk < m) (act : w (22 + 4 * kk) 2 = 0) (htg : (RB w (22 + 4 * kk)).tg = ((x / 16777216 : Nat) : Int)) (hrx : Reach (AskQ (SA w) (RrA m w) (AM N ρ c)) g0 x) : ∀ (j k : Nat) (u : World) (n : Nat) (g : Nat → Nat), k + j = (RB w (22 + 4 * kk)).ln → FrD w u → VV (u 104) → GoA u n g → GS (AskQ (SA w) (RrA m w) (AM N ρ c)) g0 n g → GL n g →
    ∃ u' n' g', f_Dm_askFor_73 u ((x / 16777216 : Nat) : Int) ((x / 2097152 % 8 : Nat) : Int) ((x % 2097152 : Nat) : Int) (kk : Int) (22 + 4 * kk) 1 (k : Int) = some (Sum.inl (u', ((kk + 1 : Nat) : Int))) ∧ FrD w u' ∧ VV (u' 104) ∧ GoA u' n' g' ∧ GS (AskQ (SA w) (RrA m w) (AM N ρ c)) g0 n' g' ∧ GL n' g' ∧ GX n g n' g' ∧ (n' = 400 ∨ ∀ k' v' y, k ≤ k' → k' < (RB w (22 + 4 * kk)).ln → ((RB w (22 + 4 * kk)).fm k' = 0 ∨ (RB w (22 + 4 * kk)).fm k' = 1) → gv (RB w (22 + 4 * kk)).ht (fun j => (x / 2097152 % 8).testBit j) (clm (x % 2097152)) 3 0 nov = some v' → AsQ (AM N ρ c) (RB w (22 + 4 * kk)) k' v' y → Inn n' g' (goalQ (SA w) (RB w (22 + 4 * kk)) k' y)) := by
  obtain ⟨⟨b1, b2, b3⟩, ⟨⟨p0, p1, p2, p3, p5⟩, p4⟩, hpr, hkt⟩ := h
  have hk12 : kk < 12 := by omega
  obtain ⟨r1, r2, ⟨r, hr, -⟩⟩ := p5 kk hkk
  obtain ⟨s1, s2, s3⟩ := p4 kk hkk
  have hkd : kdA (22 + 4 * kk) = 1 := kd_rule kk hk12
  have hRR : RrA m w (RB w (22 + 4 * kk)) := ⟨kk, hkk, act, rfl⟩
  obtain ⟨b, hbd⟩ : ∃ b, b = 22 + 4 * kk := ⟨_, rfl⟩
  rw [← hbd] at r1 r2 s1 s2 s3 hkd act htg hRR ⊢
  have hb1 := kd1 hkd
  have h5 := r2.1
  have hht := r2.2.2.2.2.2.2
  have htm := r2.2.2.2.2.2.1
  have e192 : ∀ u : World, f_Dm_askFor_192 u ((x / 16777216 : Nat) : Int) ((x / 2097152 % 8 : Nat) : Int) ((x % 2097152 : Nat) : Int) (kk : Int) = some (Sum.inl (u, ((kk + 1 : Nat) : Int))) := fun u => by
    unfold f_Dm_askFor_192
    rw [bl_s, wr_of (x := (kk : Int) + 1) ⟨by omega, by omega⟩]
    rfl
  have stop : ∀ (u : World) (k : Nat), f_Dm_askFor_73 u ((x / 16777216 : Nat) : Int) ((x / 2097152 % 8 : Nat) : Int) ((x % 2097152 : Nat) : Int) (kk : Int) b 0 (k : Int) = some (Sum.inl (u, ((kk + 1 : Nat) : Int))) := fun u k => by
    unfold f_Dm_askFor_73
    refine lp_out ?_
    show f_Dm_askFor_73B u _ _ _ (kk : Int) b 0 (k : Int) = _
    unfold f_Dm_askFor_73B
    rw [if_pos rfl, e192, bnd_s]
  intro j
  induction j with
  | zero =>
    intro k u n g hj hF hV hG hGS hL
    refine ⟨u, n, g, ?_, hF, hV, hG, hGS, hL, GX.refl, Or.inr (fun k' v' y h1 h2 => by omega)⟩
    unfold f_Dm_askFor_73
    refine lp_out ?_
    show f_Dm_askFor_73B u _ _ _ (kk : Int) b 1 (k : Int) = _
    unfold f_Dm_askFor_73B
    rw [if_neg z10, hF b (by omega) (by omega) (by omega) (by omega), r1, if_pos (by omega), e192, bnd_s]
  | succ j ih =>
    intro k u n g hj hF hV hG hGS hL
    have hkl : k < (RB w b).ln := by omega
    have hRBu : RB u b = RB w b := hF.R hkd
    have hub0 : u b 0 = ((RB w b).ln : Int) := by rw [hF b (by omega) (by omega) (by omega) (by omega)]; exact r1
    have e1 : u (b + 1) k = (RB w b).fm k := by rw [← hRBu]; rfl
    have hfm := r2.2.1 k hkl
    have hia : f_Bo_isAtom u b (k : Int) = some (if (RB w b).fm k = 0 ∨ (RB w b).fm k = 1 then 1 else 0) := by
      have hform : f_Bo_formOf u b (k : Int) = some ((RB w b).fm k) := by rw [formOf_n (by omega), e1]
      unfold f_Bo_isAtom
      rw [hform, bnd_s]
      by_cases f0 : (RB w b).fm k = 0
      · rw [if_pos f0, if_pos (Or.inl f0)]
        rfl
      · rw [if_neg f0, bnd_s]
        by_cases f1 : (RB w b).fm k = 1
        · rw [if_pos f1, if_pos (Or.inr f1)]
          rfl
        · rw [if_neg f1, if_neg (fun z => z.elim f0 f1)]
    by_cases at' : (RB w b).fm k = 0 ∨ (RB w b).fm k = 1
    · rw [if_pos at'] at hia
      have hpru := present_c (w' := u) (fun c hc => hF c (by omega) (by omega) (by omega) (by omega)) hpr
      have hS' : WfS u := WfS_congr (fun c0 z y k => by rw [hF c0 (by omega) (by omega) (by omega) (by omega)]) b3
      have hp := pose_n (w := u) (t := t) (E := k) (k := x % 2097152) (m := x / 2097152 % 8) hkd (Nat.mod_lt _ (by omega)) (Nat.mod_lt _ (by omega)) hV (by rw [hRBu]; exact hht)
      rw [hRBu] at hp
      obtain ⟨hc1, -⟩ := r2.2.2.1 k hkl (by omega)
      obtain ⟨ra, hra, hra10, hra3, -⟩ := SA_co_in hc1
      have hbody : ∀ (u1 : World) (y : Int), f_Wa_pose (bg u b t k) ((x % 2097152 : Nat) : Int) ((x / 2097152 % 8 : Nat) : Int) = some (u1, y) → f_Dm_askFor_73B u ((x / 16777216 : Nat) : Int) ((x / 2097152 % 8 : Nat) : Int) ((x % 2097152 : Nat) : Int) (kk : Int) b 1 (k : Int) = f_Dm_askFor_128 u1 ((x / 16777216 : Nat) : Int) ((x / 2097152 % 8 : Nat) : Int) ((x % 2097152 : Nat) : Int) (kk : Int) b y (k : Int) 0 := fun u1 y hy => by
        unfold f_Dm_askFor_73B
        rw [if_neg z10, hub0, if_neg (by omega), hia, bnd_s, if_neg z10, hpru, bnd_s, gd_t hkt, begin_n, bnd_s, hy, bnd_s]
      have go : ∀ (u1 : World) (y : Int), f_Dm_askFor_73B u ((x / 16777216 : Nat) : Int) ((x / 2097152 % 8 : Nat) : Int) ((x % 2097152 : Nat) : Int) (kk : Int) b 1 (k : Int) = some (Sum.inl (u1, y, ((k + 1 : Nat) : Int))) → f_Dm_askFor_73 u ((x / 16777216 : Nat) : Int) ((x / 2097152 % 8 : Nat) : Int) ((x % 2097152 : Nat) : Int) (kk : Int) b 1 (k : Int) = f_Dm_askFor_73 u1 ((x / 16777216 : Nat) : Int) ((x / 2097152 % 8 : Nat) : Int) ((x % 2097152 : Nat) : Int) (kk : Int) b y ((k + 1 : Nat) : Int) := fun u1 y h1 => by
        unfold f_Dm_askFor_73
        exact lp_step (F := fun z : (World × Int × Int) => f_Dm_askFor_73B z.1 ((x / 16777216 : Nat) : Int) ((x / 2097152 % 8 : Nat) : Int) ((x % 2097152 : Nat) : Int) (kk : Int) b z.2.1 z.2.2) (s := (u, 1, (k : Int))) h1
      have hGb : ∀ v', GoA (setV (bg u b t k) v') n g := fun v' => by
        unfold GoA at hG ⊢
        rw [setV_ne (show 152 ≠ 104 by omega), setV_ne (show 153 ≠ 104 by omega), setV_ne (show 154 ≠ 104 by omega), bg_fr (by omega) (by omega), bg_fr (by omega) (by omega), bg_fr (by omega) (by omega)]
        exact hG
      cases hg : gv (RB w b).ht (fun j => (x / 2097152 % 8).testBit j) (clm (x % 2097152)) 3 0 nov with
      | none =>
        rw [hg] at hp
        obtain ⟨v', hv1, hv2⟩ := hp
        have h128 : f_Dm_askFor_128 (setV (bg u b t k) v') ((x / 16777216 : Nat) : Int) ((x / 2097152 % 8 : Nat) : Int) ((x % 2097152 : Nat) : Int) (kk : Int) b 0 (k : Int) 0 = some (Sum.inl (setV (bg u b t k) v', 0, ((k + 1 : Nat) : Int))) := by
          unfold f_Dm_askFor_128
          refine lp_out ?_
          show f_Dm_askFor_128B (setV (bg u b t k) v') _ _ _ (kk : Int) b 0 (k : Int) 0 = _
          unfold f_Dm_askFor_128B f_Dm_askFor_186
          rw [if_neg (by decide), if_pos rfl, bl_s, wr_of (x := (k : Int) + 1) ⟨by omega, by omega⟩, bnd_s]
          rfl
        refine ⟨setV (bg u b t k) v', n, g, ?_, hF.trans bgV_fr.d, by rw [setV_104]; exact hv1, hGb v', hGS, hL, GX.refl, Or.inr (fun k' v0 y h1 h2 h3 h4 => by cases h4)⟩
        rw [go _ _ ((hbody _ _ hv2).trans h128), stop]
      | some v0 =>
        rw [hg] at hp
        obtain ⟨v', hv1, hv2, hv3⟩ := hp
        obtain ⟨hIt, hCQ, hQ, hlen⟩ := walkA_it (w := u) (t := t) (E := k) (v0 := v') hkd hkt hS' (hF.M hkt b1) (by rw [hRBu, hF.SA]; exact r2.L) (by rw [hRBu]; exact s1) (by rw [hRBu]; exact s3) (by rw [hRBu]; omega) hv1
        rw [hRBu, hF.SA] at hIt hQ hlen
        rw [hRBu] at hCQ
        have hmem := fun y => AsQ_mem (u := y) hQ (SlQ_A b1 b2) hCQ hv1
        have hsm := fun y => AsQ_same (M := AM N ρ c) (M' := AM N ρ c) (R := RB w b) (R' := RB w b) (E := k) (v0 := v') (v0' := v0) (u := y) (fun _ _ => Iff.rfl) (fun p hp => ⟨rfl, rfl, fun _ _ => rfl⟩) (fun x hx => by rw [← hv2]; unfold K8; rw [if_pos hx])
        have hub : ((setV (bg u b t k) v') 103 1).toNat = b := by
          have : setV (bg u b t k) v' 103 1 = (b : Int) := by rw [setV_ne (by omega)]; unfold bg; simp [up, setV]
          rw [this, Int.toNat_natCast]
        have hFb : FrD w (setV (bg u b t k) v') := hF.trans bgV_fr.d
        obtain ⟨u1, n1, g1, t1, t2, t3, t4, t5, t6, t7, t8⟩ := goalA_walk (A := AskQ (SA w) (RrA m w) (AM N ρ c)) (g0 := g0) (rg := ((x / 16777216 : Nat) : Int)) (sm := ((x / 2097152 % 8 : Nat) : Int)) (cd := ((x % 2097152 : Nat) : Int)) (kk := (kk : Int)) hkd b3 (show k < 5 by omega) ⟨ra, hra, hra10, hra3⟩ (fun cc hcc => htm k cc hkl hcc) _ _ n g 0 hIt hFb hub (by rw [setV_104]; exact hv1) (hGb v') hGS hL (fun y hy => by
          have hq := En_HQ hQ (SlQ_A b1 b2) hCQ k 0 v' [] y (by omega) (HQ.zero hv1) ((mem_en _ _ _ _ _).mp hy)
          refine ⟨hq.1, hrx.step ⟨RB w b, k, v0, K8 y.1, hRR, htg, hkl, at', hg, (hsm _).mp ((hmem _).mpr ⟨y, hy, rfl⟩), (goalQ_K8 (fun cc hcc => (htm k cc hkl hcc).1)).symm⟩⟩) (by omega)
        obtain ⟨u', n', g', z1, z2, z3, z4, z5, z6, z7, z8⟩ := ih (k + 1) u1 n1 g1 (by omega) t2 t3 t4 t5 t6
        refine ⟨u', n', g', by rw [go u1 1 ((hbody _ _ hv3).trans t1)]; exact z1, z2, z3, z4, z5, z6, t7.trans z7, ?_⟩
        have hn4 := z5.1
        by_cases q : n' = 400
        · exact Or.inl q
        · refine Or.inr (fun k' vv y h1 h2 h3 h4 h6 => ?_)
          have hn1 : n1 ≠ 400 := by have := z7.1; omega
          have evv : v0 = vv := Option.some.inj h4
          subst evv
          by_cases e : k' = k
          · subst e
            obtain ⟨x', hx', hxy⟩ := (hmem y).mp ((hsm y).mpr h6)
            rcases t8 with t8 | t8
            · exact absurd t8 hn1
            · have := t8 x' hx'
              rw [← hxy, goalQ_K8 (fun cc hcc => (htm k' cc hkl hcc).1)]
              exact this.x z7
          · rcases z8 with z8 | z8
            · exact absurd z8 q
            · exact z8 k' v0 y (by omega) h2 h3 hg h6
    · rw [if_neg at'] at hia
      obtain ⟨u', n', g', z1, z2, z3, z4, z5, z6, z7, z8⟩ := ih (k + 1) u n g (by omega) hF hV hG hGS hL
      refine ⟨u', n', g', ?_, z2, z3, z4, z5, z6, z7, z8.imp (fun z => z) (fun z8 k' v' y h1 h2 h3 h4 h6 => ?_)⟩
      · rw [← z1]
        unfold f_Dm_askFor_73
        refine lp_step (F := fun z : (World × Int × Int) => f_Dm_askFor_73B z.1 ((x / 16777216 : Nat) : Int) ((x / 2097152 % 8 : Nat) : Int) ((x % 2097152 : Nat) : Int) (kk : Int) b z.2.1 z.2.2) (s := (u, 1, (k : Int))) ?_
        show f_Dm_askFor_73B u _ _ _ (kk : Int) b 1 (k : Int) = _
        unfold f_Dm_askFor_73B f_Dm_askFor_186
        rw [if_neg z10, hub0, if_neg (by omega), hia, bnd_s, if_pos rfl, bl_s, wr_of (x := (k : Int) + 1) ⟨by omega, by omega⟩]
        rfl
      · by_cases e : k' = k
        · rw [e] at h3
          exact absurd h3 at'
        · exact z8 k' v' y (by omega) h2 h3 h4 h6
