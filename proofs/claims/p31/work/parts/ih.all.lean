/-! THE LAW over one picture: holdsAll -/
def sumL (T : Nat → List Nat) : Nat → Nat
  | 0 => 0
  | n + 1 => sumL T n + (T n).length
section ALL
variable {nn : Nat → Int} {wA wB : World} {T : Nat → List Nat} {x r : Nat} {m : Bool}
theorem sumL_6 (hT : Tup wA T) : sumL T 6 ≤ 48 := by
  have := hT.2.1
  show (((((0 + (T 0).length) + (T 1).length) + (T 2).length) + (T 3).length) + (T 4).length) + (T 5).length ≤ 48
  omega
theorem sumL_le (hT : Tup wA T) (hr : r ≤ 6) : sumL T r ≤ 48 := by
  have h6 := sumL_6 hT
  have key : ∀ j, r + j ≤ 6 → sumL T r ≤ sumL T (r + j) := by
    intro j
    induction j with
    | zero => intro _; exact Nat.le_refl _
    | succ j ih => intro h; exact Nat.le_trans (ih (by omega)) (Nat.le_add_right _ _)
  have := key (6 - r) (by omega)
  rw [show r + (6 - r) = 6 by omega] at this
  omega
/-- a question in range: what it may answer -/
def Perm (wB : World) (so r : Nat) (x y z : Int) : Prop := ∀ j, j < 3 → okC so (wB 3 r).toNat j (pick x y z j)
theorem perm_0 (hd : DecB wB) {a b c e : Nat} (ha : a < 6) (hb : b < 4) (hc : c < 4) (he : e < 4) (h2 : a = 2 → c = 0) (h5 : a ≠ 5 → e = 0) : Perm wB 0 a (b : Int) (c : Int) (e : Int) := by
  intro j hj
  obtain ⟨d0, d1, d2, d3, d4, d5, -⟩ := hd
  have hj' : j = 0 ∨ j = 1 ∨ j = 2 := by omega
  have ha' : a = 0 ∨ a = 1 ∨ a = 2 ∨ a = 3 ∨ a = 4 ∨ a = 5 := by omega
  unfold okC
  rcases ha' with rfl | rfl | rfl | rfl | rfl | rfl <;> rcases hj' with rfl | rfl | rfl <;> simp only [d0, d1, d2, d3, d4, d5, pick] <;> simp <;> omega
theorem perm_2 (hd : DecB wB) {a b : Nat} (ha : a < 6) (hb : b < 4) : Perm wB 2 a (b : Int) (if a = 2 then 0 else -9) (if a = 5 then -9 else 0) := by
  intro j hj
  obtain ⟨d0, d1, d2, d3, d4, d5, -⟩ := hd
  have hj' : j = 0 ∨ j = 1 ∨ j = 2 := by omega
  have ha' : a = 0 ∨ a = 1 ∨ a = 2 ∨ a = 3 ∨ a = 4 ∨ a = 5 := by omega
  unfold okC
  rcases ha' with rfl | rfl | rfl | rfl | rfl | rfl <;> rcases hj' with rfl | rfl | rfl <;> simp only [d0, d1, d2, d3, d4, d5, pick] <;> simp <;> omega
theorem v_bro (h0 : II wA wB) : ∃ y v : Int, (∀ z m, W2 z nn wB → ∃ w', f_Dm_broken (zg z m) = some (w', y) ∧ W2 (zs z m w') nn wB) ∧ (∀ z m, W2 z nn wB → ∃ w', f_Dm_repair (zg z m) = some (w', v) ∧ W2 (zs z m w') nn wB) ∧ ((y = 0 ∧ v = 0) ∨ (y ≠ 0 ∧ v ≠ 0 ∧ (v < 1 ∨ ishr v (wB 1 7) = 0))) := by
  obtain ⟨oB, -, hall⟩ := an_broken ⟨_, h0⟩
  obtain ⟨oR, -, hrep⟩ := an_repair ⟨_, h0⟩
  refine ⟨oB.2, oR.2, fun z m hz => ?_, fun z m hz => ?_, ?_⟩
  · obtain ⟨w', h1, h2⟩ := hall _ (hz.g m)
    exact ⟨w', h1, hz.s m h2⟩
  · obtain ⟨w', h1, h2⟩ := hrep _ (hz.g m)
    exact ⟨w', h1, hz.s m h2⟩
  · obtain ⟨nF, mm, d, now, top, L, g, hI⟩ := id h0
    obtain ⟨w1, w2, y, v, h1, h2, -, -, h3⟩ := bro_rep hI
    obtain ⟨s1, e1, -⟩ := hall _ h0
    obtain ⟨s2, e2, -⟩ := hrep _ h0
    have a1 : oB.2 = y := congrArg Prod.snd (some_inj (h1.symm.trans e1))
    have a2 : oR.2 = v := congrArg Prod.snd (some_inj (h2.symm.trans e2))
    have n7 : wB 1 7 = (nF : Int) := hI.2.1.2.1.1
    rw [a1, a2, n7]
    rcases h3 with z | ⟨z1, z2⟩ | ⟨z1, z2⟩
    · exact Or.inl z
    · exact Or.inr ⟨z1, by omega, Or.inl (by omega)⟩
    · exact Or.inr ⟨z1, by have := z2.1.1; omega, Or.inr z2.1.2.1⟩
theorem ha_415 {t : Nat} {z : ZQ} {x3 x5 x6 : Int} (hz : W2 z nn wB) (ht : t ≤ 3000) (h3 : x3 ≤ 48) (h5 : 1 ≤ x5 ∧ x5 ≤ 400) (h6 : x6 < 1 ∨ ishr x6 (nn 0) = 0) : Eo (P1 nn wB) (f_L_holdsAll_415 z m t x3 1 x5 x6 1) := by
  have e461 : Eo (P1 nn wB) (f_L_holdsAll_461 z m t) := by
    unfold f_L_holdsAll_461
    refine Eo_g (by omega) ?_
    exact Eo_r ⟨hz, rfl⟩
  unfold f_L_holdsAll_415
  refine Eo_g (by omega) ?_
  refine Eo_f z10 ?_
  refine Eo_f (by omega) ?_
  refine Eo_f (by omega) ?_
  refine Eo_f (by omega) ?_
  refine Eo_f z10 ?_
  by_cases q : x6 < 1
  · exact Eo_t q e461
  · refine Eo_f q ?_
    refine Eo_t ?_ e461
    rw [hz.2.2]
    rcases h6 with h | h
    · exact absurd h q
    · exact h
theorem ha_335 {t : Nat} {z : ZQ} {x3 : Int} (h0 : II wA wB) (hd : DecB wB) (hN : NT nn wB) (hx : x < 2147483000) (hz : W2 z nn wB) (ht : t + 1 ≤ 3000) (h3 : x3 ≤ 48) : Eo (P1 nn wB) (f_L_holdsAll_335 z m t (x : Int) x3 1) := by
  have i6 : irem (x : Int) 6 = ((x % 6 : Nat) : Int) := by rw [irem_n (by omega) (by omega) (by decide) (by decide)]; omega
  have d6 : idiv (x : Int) 6 = ((x / 6 : Nat) : Int) := by rw [idiv_n (by omega) (by omega) (by decide) (by decide)]; omega
  have i4 : irem ((x / 6 : Nat) : Int) 4 = ((x / 6 % 4 : Nat) : Int) := by rw [irem_n (by omega) (by omega) (by decide) (by decide)]; omega
  obtain ⟨n0, -⟩ := hN
  obtain ⟨y, v, hB, hR, hyv⟩ := v_bro (nn := nn) h0
  have key : ∀ s3 s4 : Int, s3 = (if x % 6 = 2 then 0 else -9) → s4 = (if x % 6 = 5 then -9 else 0) → Eo (P1 nn wB) (f_L_holdsAll_374 z m t x3 1 ((x % 6 : Nat) : Int) ((x / 6 % 4 : Nat) : Int) s3 s4) := fun s3 s4 e3 e4 => by
    have hp : Perm wB 2 (x % 6) ((x / 6 % 4 : Nat) : Int) s3 s4 := by rw [e3, e4]; exact perm_2 hd (by omega) (by omega)
    obtain ⟨w', G, g1, g2, g3⟩ := goals_rng h0 (show x % 6 < 10 by omega) (hd.pos (by omega)) hp
    have rs3 : R32 s3 := by rw [e3]; split <;> exact ⟨by decide, by decide⟩
    have rs4 : R32 s4 := by rw [e4]; split <;> exact ⟨by decide, by decide⟩
    have aG : ActQ (fun q m => f_L_goals q m ((x % 6 : Nat) : Int) ((x / 6 % 4 : Nat) : Int) s3 s4) wB wB G := av_goals h0 (Rnn (by omega)) (Rnn (by omega)) rs3 rs4 g1
    unfold f_L_holdsAll_374
    refine Eo_g ht ?_
    refine Eo_bnd aG hz (fun z hz => ?_)
    dsimp only
    obtain ⟨w1, e1, hz1⟩ := hR z m hz
    rw [e1, bnd_s]
    refine Eo_l ?_
    obtain ⟨w2, e2, hz2⟩ := hB _ m hz1
    dsimp only
    rw [e2, bnd_s]
    refine Eo_l ?_
    dsimp only
    rcases hyv with ⟨y0, v0⟩ | ⟨y0, v0, v1⟩
    · refine Eo_t y0 ?_
      refine Eo_t v0 ?_
      exact ha_415 hz2 ht h3 ⟨g2, g3⟩ (Or.inl (by omega))
    · refine Eo_f y0 ?_
      refine Eo_f v0 ?_
      exact ha_415 hz2 ht h3 ⟨g2, g3⟩ (by rw [n0]; exact v1)
  have k360 : ∀ s3 : Int, s3 = (if x % 6 = 2 then 0 else -9) → Eo (P1 nn wB) (f_L_holdsAll_360 z m t (x : Int) x3 1 ((x % 6 : Nat) : Int) ((x / 6 % 4 : Nat) : Int) s3) := fun s3 e3 => by
    unfold f_L_holdsAll_360
    rw [i6]
    refine Eo_g (by omega) ?_
    by_cases q : x % 6 = 5
    · exact Eo_t (by omega) (key s3 (-9) e3 (by rw [if_pos q]))
    · exact Eo_f (by omega) (key s3 0 e3 (by rw [if_neg q]))
  unfold f_L_holdsAll_335
  rw [i6, d6, i4]
  refine Eo_g (by omega) ?_
  by_cases q : x % 6 = 2
  · exact Eo_t (by omega) (k360 0 (by rw [if_pos q]))
  · exact Eo_f (by omega) (k360 (-9) (by rw [if_neg q]))
/-- the end of one of the twelve -/
def Nx (nn : Nat → Int) (wB : World) (t i : Nat) (o : (ZQ × Nat × Int × Int) ⊕ (ZQ × Int)) : Prop := ∃ s, o = Sum.inl s ∧ ∃ (z' : ZQ) (t' : Nat), s = (z', t', 1, ((i + 1 : Nat) : Int)) ∧ t' ≤ t ∧ W2 z' nn wB
theorem ha_322 {t T9 i : Nat} {z : ZQ} {x3 : Int} (hi : i < 100) (hz : W2 z nn wB) (ht : t ≤ T9) (h9 : T9 ≤ 3000) : Eo (Nx nn wB T9 i) (f_L_holdsAll_322 z m t (x : Int) x3 (i : Int)) := by
  unfold f_L_holdsAll_322 f_L_holdsAll_327
  refine Eo_g (by omega) ?_
  refine Eo_g (by omega) ?_
  refine Eo_l ?_
  rw [wr_s (a := (i : Int) + 1) (by omega) (by omega)]
  exact Eo_r ⟨_, rfl, z, t, rfl, ht, hz⟩
theorem ha_150 {t T9 i a b c e : Nat} {z : ZQ} {x3 : Int} (h0 : II wA wB) (hd : DecB wB) (hN : NT nn wB) (hi : i < 100) (ha : a < 6) (hb : b < 4) (hc : c < 4) (he : e < 4) (h2 : a = 2 → c = 0) (h5 : a ≠ 5 → e = 0) (hz : W2 z nn wB) (ht : t + 7 ≤ T9) (h9 : T9 ≤ 3000) : Eo (Nx nn wB T9 i) (f_L_holdsAll_150 z m t (x : Int) x3 (i : Int) (a : Int) (b : Int) (c : Int) (e : Int)) := by
  have rb : R32 (b : Int) := Rnn (by omega)
  have rc : R32 (c : Int) := Rnn (by omega)
  have re : R32 (e : Int) := Rnn (by omega)
  have hp := perm_0 hd ha hb hc he h2 h5
  have i4 : irem (i : Int) 4 = ((i % 4 : Nat) : Int) := by rw [irem_n (by omega) (by omega) (by decide) (by decide)]; omega
  obtain ⟨u, uA, uB, -⟩ := v_hour h0 hd ha rb rc re (h := i % 4) (by omega)
  obtain ⟨C, aC, hC⟩ := v_cheap h0 hd ha rb rc re
  obtain ⟨W, aW, hW⟩ := v_ways h0 hd ha rb rc re
  obtain ⟨B, aB, -, hB⟩ := v_need h0 hd ha rb rc re
  obtain ⟨-, n1, -⟩ := hN
  obtain ⟨-, r1, -⟩ := num_rng h0
  rcases why_rng h0 (show a < 10 by omega) (hd.pos ha) hp with ⟨hh, -⟩ | ⟨hh, v, w', hv, hvr⟩
  · -- it holds
    unfold f_L_holdsAll_150
    refine Eo_g (by omega) ?_
    refine Eo_bnd (v_hold h0 ha rb rc re hh) hz (fun z hz => ?_)
    refine Eo_t rfl ?_
    unfold f_L_holdsAll_173
    refine Eo_g (by omega) ?_
    refine Eo_f z10 ?_
    unfold f_L_holdsAll_196
    rw [i4]
    refine Eo_g (by omega) ?_
    refine Eo_l ?_
    refine Eo_bnd uA hz (fun z hz => ?_)
    refine Eo_bnd uB hz (fun z hz => ?_)
    refine Eo_t rfl ?_
    refine Eo_f z10 ?_
    unfold f_L_holdsAll_271
    refine Eo_g (by omega) ?_
    refine Eo_f z10 ?_
    exact ha_322 hi hz (by omega) h9
  · -- it does not
    have aV : ActQ (fun q m => f_L_whyNot q m (a : Int) (b : Int) (c : Int) (e : Int)) wB wB v := av_whyNot h0 (Rnn (by omega)) rb rc re hv
    have hW0 : W = 0 := by
      rcases hW with ⟨z, -⟩ | ⟨-, z⟩
      · exact absurd (hold_eq hh z) (by decide)
      · exact z
    have hC0 : C = -1 := by
      rcases hC with ⟨z, -⟩ | ⟨-, z⟩
      · exact absurd (hold_eq hh z) (by decide)
      · exact z
    have hB0 : B = 0 := hB hh
    subst hW0
    subst hC0
    subst hB0
    have n14 : wA 14 4 = wB 1 14 := (num_AB h0).2.1
    rw [n14] at hvr
    have go271 : ∀ (z : ZQ) (t' : Nat), W2 z nn wB → t' ≤ t + 4 → Eo (Nx nn wB T9 i) (f_L_holdsAll_271 z m t' (x : Int) x3 (i : Int) (a : Int) (b : Int) (c : Int) (e : Int) 0) := fun z t' hz ht' => by
      unfold f_L_holdsAll_271
      refine Eo_g (by omega) ?_
      refine Eo_t rfl ?_
      refine Eo_bnd aW hz (fun z hz => ?_)
      refine Eo_t rfl ?_
      refine Eo_bnd aC hz (fun z hz => ?_)
      refine Eo_t rfl ?_
      refine Eo_bnd aB hz (fun z hz => ?_)
      refine Eo_t rfl ?_
      exact ha_322 hi hz (by omega) h9
    unfold f_L_holdsAll_150
    refine Eo_g (by omega) ?_
    refine Eo_bnd (v_hold h0 ha rb rc re hh) hz (fun z hz => ?_)
    refine Eo_f (show ¬ (0 : Int) = 1 by decide) ?_
    unfold f_L_holdsAll_173
    refine Eo_g (by omega) ?_
    refine Eo_t rfl ?_
    refine Eo_bnd aV hz (fun z hz => ?_)
    dsimp only
    unfold f_L_holdsAll_196
    rw [i4]
    refine Eo_g (by omega) ?_
    refine Eo_l ?_
    refine Eo_bnd uA hz (fun z hz => ?_)
    refine Eo_bnd uB hz (fun z hz => ?_)
    refine Eo_t rfl ?_
    refine Eo_t rfl ?_
    rcases hvr with v0 | ⟨b', h', v0, b0, b1, h00, h1⟩
    · exact Eo_t v0 (go271 _ _ hz (by omega))
    · have dv : idiv v 10 = b' := by rw [idiv_n (by omega) (by omega) (by decide) (by decide)]; omega
      have rv : irem v 10 = h' := by rw [irem_n (by omega) (by omega) (by decide) (by decide)]; omega
      refine Eo_f (by omega) ?_
      dsimp only
      rw [dv, rv]
      refine Eo_f (by rw [hz.2.2, n1]; omega) ?_
      refine Eo_f (by omega) ?_
      refine Eo_f (by omega) ?_
      exact go271 _ _ hz (by omega)
theorem ha_76 {x3 : Int} (h0 : II wA wB) (hd : DecB wB) (hN : NT nn wB) (hx : x < 2147483000) (h3 : x3 ≤ 48) : ∀ (j i t : Nat) (z : ZQ), i + j = 12 → t ≤ 2418 + 7 * i → W2 z nn wB → Eo (P1 nn wB) (f_L_holdsAll_76 z m t (x : Int) x3 1 (i : Int)) := by
  intro j
  induction j with
  | zero =>
    intro i t z hi ht hz
    unfold f_L_holdsAll_76
    refine Eo_out ?_
    show Eo _ (f_L_holdsAll_76B z m t (x : Int) x3 1 (i : Int))
    unfold f_L_holdsAll_76B
    refine Eo_g (by omega) ?_
    refine Eo_t (by omega) ?_
    exact Eo_b (ha_335 h0 hd hN hx hz (by omega) h3) (fun b hb => Eo_r ⟨b, rfl, hb⟩)
  | succ j ih =>
    intro i t z hi ht hz
    unfold f_L_holdsAll_76
    refine Eo_step (fun s => ∃ (z' : ZQ) (t' : Nat), s = (z', t', 1, ((i + 1 : Nat) : Int)) ∧ t' ≤ 2418 + 7 * (i + 1) ∧ W2 z' nn wB) ?_ ?_
    · show Eo (Nx nn wB (2418 + 7 * (i + 1)) i) (f_L_holdsAll_76B z m t (x : Int) x3 1 (i : Int))
      have w1 : wr ((x : Int) + (i : Int)) = ((x + i : Nat) : Int) := by rw [wr_s (by omega) (by omega)]; omega
      have i1 : irem ((x + i : Nat) : Int) 6 = (((x + i) % 6 : Nat) : Int) := by rw [irem_n (by omega) (by omega) (by decide) (by decide)]; omega
      have d6 : idiv (x : Int) 6 = ((x / 6 : Nat) : Int) := by rw [idiv_n (by omega) (by omega) (by decide) (by decide)]; omega
      have w2 : wr (((x / 6 : Nat) : Int) + (i : Int)) = ((x / 6 + i : Nat) : Int) := by rw [wr_s (by omega) (by omega)]; omega
      have i2 : irem ((x / 6 + i : Nat) : Int) 4 = (((x / 6 + i) % 4 : Nat) : Int) := by rw [irem_n (by omega) (by omega) (by decide) (by decide)]; omega
      have d24 : idiv (x : Int) 24 = ((x / 24 : Nat) : Int) := by rw [idiv_n (by omega) (by omega) (by decide) (by decide)]; omega
      have d4 : idiv (i : Int) 4 = ((i / 4 : Nat) : Int) := by rw [idiv_n (by omega) (by omega) (by decide) (by decide)]; omega
      have w3 : wr (((x / 24 : Nat) : Int) + ((i / 4 : Nat) : Int)) = ((x / 24 + i / 4 : Nat) : Int) := by rw [wr_s (by omega) (by omega)]; omega
      have i3 : irem ((x / 24 + i / 4 : Nat) : Int) 4 = (((x / 24 + i / 4) % 4 : Nat) : Int) := by rw [irem_n (by omega) (by omega) (by decide) (by decide)]; omega
      have d96 : idiv (x : Int) 96 = ((x / 96 : Nat) : Int) := by rw [idiv_n (by omega) (by omega) (by decide) (by decide)]; omega
      have w4 : wr (((x / 96 : Nat) : Int) + (i : Int)) = ((x / 96 + i : Nat) : Int) := by rw [wr_s (by omega) (by omega)]; omega
      have i4 : irem ((x / 96 + i : Nat) : Int) 4 = (((x / 96 + i) % 4 : Nat) : Int) := by rw [irem_n (by omega) (by omega) (by decide) (by decide)]; omega
      have k129 : ∀ c : Nat, c < 4 → ((x + i) % 6 = 2 → c = 0) → Eo (Nx nn wB (2418 + 7 * (i + 1)) i) (f_L_holdsAll_129 z m t (x : Int) x3 (i : Int) (((x + i) % 6 : Nat) : Int) (((x / 6 + i) % 4 : Nat) : Int) (c : Int)) := fun c hc h2 => by
        unfold f_L_holdsAll_129
        rw [d96, w4, i4]
        refine Eo_g (by omega) ?_
        by_cases q : (x + i) % 6 = 5
        · exact Eo_t (by omega) (ha_150 h0 hd hN (by omega) (by omega) (by omega) hc (by omega) h2 (fun z => absurd q z) hz (by omega) (by omega))
        · exact Eo_f (by omega) (ha_150 (e := 0) h0 hd hN (by omega) (by omega) (by omega) hc (by omega) h2 (fun z => rfl) hz (by omega) (by omega))
      unfold f_L_holdsAll_76B
      rw [w1, i1, d6, w2, i2, d24, d4, w3, i3]
      refine Eo_g (by omega) ?_
      refine Eo_f (by omega) ?_
      refine Eo_f z10 ?_
      refine Eo_l ?_
      refine Eo_l ?_
      by_cases q : (x + i) % 6 = 2
      · exact Eo_t (by omega) (k129 0 (by omega) (fun _ => rfl))
      · exact Eo_f (by omega) (k129 _ (by omega) (fun z => absurd z q))
    · rintro s ⟨z', t', rfl, ht', hz'⟩
      exact ih (i + 1) t' z' (by omega) ht' hz'
theorem ha_8 (h0 : II wA wB) (hd : DecB wB) (hT : Tup wA T) (hN : NT nn wB) (hx : x < 2147483000) : ∀ (j r t : Nat) (z : ZQ), r + j = 6 → t ≤ 403 * r → W2 z nn wB → Eo (P1 nn wB) (f_L_holdsAll_8 z m t (x : Int) ((sumL T r : Nat) : Int) 1 (r : Int)) := by
  intro j
  induction j with
  | zero =>
    intro r t z hr ht hz
    have hs := sumL_le hT (show r ≤ 6 by omega)
    unfold f_L_holdsAll_8
    refine Eo_out ?_
    show Eo _ (f_L_holdsAll_8B z m t (x : Int) ((sumL T r : Nat) : Int) 1 (r : Int))
    unfold f_L_holdsAll_8B f_L_holdsAll_73
    refine Eo_g (by omega) ?_
    refine Eo_t (by omega) ?_
    refine Eo_b (Q := P1 nn wB) ?_ (fun b hb => Eo_r ⟨b, rfl, hb⟩)
    refine Eo_g (by omega) ?_
    exact ha_76 h0 hd hN hx (by omega) 12 0 t z (by omega) (by omega) hz
  | succ j ih =>
    intro r t z hr ht hz
    have hr6 : r < 6 := by omega
    have hs := sumL_le hT (show r ≤ 6 by omega)
    have hl := len_T hT hr6
    obtain ⟨v, hv, hv2⟩ := str_rng h0 (show r < 10 by omega) (hd.pos hr6)
    have aS : ActQ (fun q m => f_L_stratum q m (r : Int)) wB wB (v : Int) := av_stratum h0 (Rnn (by omega)) hv2
    unfold f_L_holdsAll_8
    refine Eo_step (fun s => ∃ (z' : ZQ) (t' : Nat), s = (z', t', ((sumL T (r + 1) : Nat) : Int), 1, ((r + 1 : Nat) : Int)) ∧ t' ≤ 403 * (r + 1) ∧ W2 z' nn wB) ?_ ?_
    · show Eo _ (f_L_holdsAll_8B z m t (x : Int) ((sumL T r : Nat) : Int) 1 (r : Int))
      unfold f_L_holdsAll_8B
      refine Eo_g (by omega) ?_
      refine Eo_f (by omega) ?_
      refine Eo_f z10 ?_
      refine Eo_bnd (v_size h0 hT hr6) hz (fun z hz => ?_)
      dsimp only
      have ws : wr (((sumL T r : Nat) : Int) + ((T r).length : Int)) = ((sumL T (r + 1) : Nat) : Int) := by
        rw [wr_s (by omega) (by omega)]
        show _ = ((sumL T r + (T r).length : Nat) : Int)
        omega
      rw [ws]
      refine Eo_l ?_
      refine Eo_b (told_law (m := m) h0 hd hT hN hr6 (by omega) hz) (fun b hb => ?_)
      obtain ⟨z2, v2⟩ := b
      obtain ⟨hz2, hb2⟩ := hb
      have hb2 : v2 = 1 := hb2
      subst hb2
      dsimp only
      refine Eo_f z10 ?_
      refine Eo_bnd aS hz2 (fun z hz => ?_)
      refine Eo_f (by show ¬ (v : Int) < 0; omega) ?_
      refine Eo_bnd aS hz (fun z hz => ?_)
      refine Eo_f (by show ¬ (10 : Int) ≤ (v : Int); omega) ?_
      unfold f_L_holdsAll_65
      refine Eo_g (by omega) ?_
      refine Eo_l ?_
      rw [wr_s (a := (r : Int) + 1) (by omega) (by omega)]
      exact Eo_r ⟨_, rfl, z, t + 403, rfl, by omega, hz⟩
    · rintro s ⟨z', t', rfl, ht', hz'⟩
      exact ih (r + 1) t' z' (by omega) ht' hz'
theorem all_law (hd : DecB wB) (hN : NT nn wB) (hx : x < 2147483000) {z : ZQ} (hz : W2 z nn wB) : Eo (P1 nn wB) (f_L_holdsAll z m (x : Int)) := by
  have h0 := hz.1
  obtain ⟨T, hT⟩ := tup_ex h0 hd
  unfold f_L_holdsAll
  exact ha_8 h0 hd hT hN hx 6 0 0 z (by omega) (by omega) hz
end ALL
