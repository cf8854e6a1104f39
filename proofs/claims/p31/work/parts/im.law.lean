/-! THE LAW: the whole walk; LawOk -/
theorem dec_ok {wA wB : World} (h0 : II wA wB) {q k : Nat} {x3 x4 : Int} (hq : q < 10) (hz : wB 3 q = 0) (hk : 1 ≤ k ∧ k ≤ 3) (h3 : 0 ≤ x3 ∧ x3 ≤ 3) (r4 : R32 x4) (hKey : f_Dm_isKey (k : Int) x3 x4 = some 1) : ∃ wB', ActQ (fun z m => f_L_declares z m (q : Int) (k : Int) x3 x4) wB wB' 1 ∧ (∃ wA', II wA' wB') ∧ (∀ r : Nat, r < 10 → wB' 3 r = if r = q then (k : Int) else wB 3 r) ∧ wB' 1 7 = wB 1 7 ∧ wB' 1 14 = wB 1 14 ∧ wB' 1 1 = wB 1 1 ∧ wB' 16 18 = wB 16 18 ∧ hB wB' = hB wB := by
  obtain ⟨n, wB', -, hn, hA, hall⟩ := ac_declares ⟨wA, h0⟩ (x1 := (q : Int)) (x2 := (k : Int)) (x3 := x3) (x4 := x4) (Rnn (by omega)) (Rnn (by omega)) ⟨by omega, by omega⟩ r4
  obtain ⟨w', v', g1, g3⟩ := hall wA h0
  obtain ⟨a1, a2, a3, a4, a5, a6⟩ := num_AB h0
  have hdec : f_Sc_isDeclared wA (q : Int) = some 0 := by
    obtain ⟨nF, m, d, now, top, L, g, hI⟩ := id h0
    rcases decl_both hI.1 (q : Int) with ⟨r, e, hr, h1, -, -⟩ | ⟨-, h1, -⟩
    · have e : r = q := by omega
      subst e
      rw [a6 r hr, hz] at h1
      omega
    · exact h1
  have hrun : f_Dm_declare wA (q : Int) (k : Int) x3 x4 = some (noteW wA q k x3 x4, 0, 0) := by
    unfold f_Dm_declare
    rw [if_neg (by omega), if_neg (by omega), if_neg (by omega), if_pos (by omega), if_neg (by omega), if_neg (by omega), hKey, bnd_s, if_neg z10, hdec, bnd_s, if_pos rfl, note_n hq hk.1 hk.2, bnd_s]
  have e := some_inj (hrun.symm.trans g1)
  have e1 : w' = noteW wA q k x3 x4 := congrArg Prod.fst e
  have e2 : n = 0 := congrArg (fun p : World × Nat × Int => p.2.1) e
  subst e2
  rw [e1] at g3
  obtain ⟨b1, b2, b3, b4, b5, b6⟩ := num_AB g3
  refine ⟨wB', hA, ⟨_, g3⟩, fun r hr => ?_, ?_, ?_, ?_, ?_, ?_⟩
  · rw [← b6 r hr, ← a6 r hr]
    unfold noteW
    by_cases e : r = q
    · subst e; simp [up]
    · simp [up, e]
  · rw [← a1, ← b1]; unfold noteW; simp [up]
  · rw [← a2, ← b2]; unfold noteW; simp [up]
  · rw [← a5, ← b5]; unfold noteW; simp [up]
  · rw [← a3, ← b3]; unfold noteW; simp [up]
  · rw [← a4, ← b4]
    refine Dk.hold ⟨?_, ?_⟩
    · unfold noteW; simp [up]
    · funext j; unfold noteW; simp [up]
theorem B0_nums : wB0 1 7 = 0 ∧ wB0 1 14 = 0 ∧ wB0 1 1 = 0 ∧ wB0 16 18 = 0 ∧ ∀ r : Nat, r < 10 → wB0 3 r = 0 := by decide +kernel
theorem dec_six : ∃ B1 B2 B3 B4 B5 B6 : World, ActQ (fun z m => f_L_declares z m 0 2 0 1) wB0 B1 1 ∧ ActQ (fun z m => f_L_declares z m 1 2 0 2) B1 B2 1 ∧ ActQ (fun z m => f_L_declares z m 2 1 0 1) B2 B3 1 ∧ ActQ (fun z m => f_L_declares z m 3 2 1 1) B3 B4 1 ∧ ActQ (fun z m => f_L_declares z m 4 2 2 1) B4 B5 1 ∧ ActQ (fun z m => f_L_declares z m 5 3 3 2) B5 B6 1 ∧ DecB B6 ∧ NT (fun _ => 0) B6 := by
  obtain ⟨z7, z14, z1, z16, z3⟩ := B0_nums
  obtain ⟨B1, c1, ⟨w1, h1⟩, d1, p1, p2, p3, p4, p5⟩ := dec_ok start_II (q := 0) (k := 2) (x3 := 0) (x4 := 1) (by omega) (z3 0 (by omega)) (by omega) (by decide) ⟨by decide, by decide⟩ (by decide)
  obtain ⟨B2, c2, ⟨w2, h2⟩, d2, q1, q2, q3, q4, q5⟩ := dec_ok h1 (q := 1) (k := 2) (x3 := 0) (x4 := 2) (by omega) (by rw [d1 1 (by omega), if_neg (by omega), z3 1 (by omega)]) (by omega) (by decide) ⟨by decide, by decide⟩ (by decide)
  obtain ⟨B3, c3, ⟨w3, h3⟩, d3, r1, r2, r3, r4, r5⟩ := dec_ok h2 (q := 2) (k := 1) (x3 := 0) (x4 := 1) (by omega) (by rw [d2 2 (by omega), if_neg (by omega), d1 2 (by omega), if_neg (by omega), z3 2 (by omega)]) (by omega) (by decide) ⟨by decide, by decide⟩ (by decide)
  obtain ⟨B4, c4, ⟨w4, h4⟩, d4, s1, s2, s3, s4, s5⟩ := dec_ok h3 (q := 3) (k := 2) (x3 := 1) (x4 := 1) (by omega) (by rw [d3 3 (by omega), if_neg (by omega), d2 3 (by omega), if_neg (by omega), d1 3 (by omega), if_neg (by omega), z3 3 (by omega)]) (by omega) (by decide) ⟨by decide, by decide⟩ (by decide)
  obtain ⟨B5, c5, ⟨w5, h5⟩, d5, t1, t2, t3, t4, t5⟩ := dec_ok h4 (q := 4) (k := 2) (x3 := 2) (x4 := 1) (by omega) (by rw [d4 4 (by omega), if_neg (by omega), d3 4 (by omega), if_neg (by omega), d2 4 (by omega), if_neg (by omega), d1 4 (by omega), if_neg (by omega), z3 4 (by omega)]) (by omega) (by decide) ⟨by decide, by decide⟩ (by decide)
  obtain ⟨B6, c6, ⟨w6, h6⟩, d6, u1, u2, u3, u4, u5⟩ := dec_ok h5 (q := 5) (k := 3) (x3 := 3) (x4 := 2) (by omega) (by rw [d5 5 (by omega), if_neg (by omega), d4 5 (by omega), if_neg (by omega), d3 5 (by omega), if_neg (by omega), d2 5 (by omega), if_neg (by omega), d1 5 (by omega), if_neg (by omega), z3 5 (by omega)]) (by omega) (by decide) ⟨by decide, by decide⟩ (by decide)
  have all : ∀ r : Nat, r < 10 → B6 3 r = if r = 5 then 3 else if r = 4 then 2 else if r = 3 then 2 else if r = 2 then 1 else if r = 1 then 2 else if r = 0 then 2 else 0 := fun r hr => by
    rw [d6 r hr, d5 r hr, d4 r hr, d3 r hr, d2 r hr, d1 r hr, z3 r hr]
    rfl
  have hB0 : hB wB0 = 0 := by unfold hB; rw [z16]; rfl
  refine ⟨B1, B2, B3, B4, B5, B6, c1, c2, c3, c4, c5, c6, ⟨all 0 (by omega), all 1 (by omega), all 2 (by omega), all 3 (by omega), all 4 (by omega), all 5 (by omega), fun r h1 h2 => ?_⟩, ?_, ?_, ?_, ?_, ?_⟩
  · rw [all r h2, if_neg (by omega), if_neg (by omega), if_neg (by omega), if_neg (by omega), if_neg (by omega), if_neg (by omega)]
  · rw [u1, t1, s1, r1, q1, p1, z7]
  · rw [u2, t2, s2, r2, q2, p2, z14]
  · rw [u4, t4, s4, r4, q4, p4, z16]
  · rw [u5, t5, s5, r5, q5, p5, hB0]; rfl
  · rw [u3, t3, s3, r3, q3, p3, z1]
theorem Ec_bnd {β : Type} {P : β → Prop} {z : ZQ} {m : Bool} {wB wB' : World} {f : ZQ → Bool → Option (ZQ × Int)} {k : ZQ × Int → Option β} {r1 : Int} (ha : ActQ f wB wB' r1) (hz : II (zg z m) wB) (hk : ∀ w', II w' wB' → Eo P (k (zs z m w', r1))) : Eo P (bnd (f z m) k) := by
  obtain ⟨w', h1, h2⟩ := ha z m hz
  rw [h1, bnd_s]
  exact hk w' h2
theorem Ec_bnd2 {β : Type} {P : β → Prop} {z : ZQ} {m : Bool} {wB wB' w : World} {f : ZQ → Bool → Option (ZQ × Int)} {k : ZQ × Int → Option β} {r1 : Int} (ha : ActQ f wB wB' r1) (hz : II w wB) (hk : ∀ w', II w' wB' → Eo P (k (zs z m w', r1))) : Eo P (bnd (f (zs z m w) m) k) := by
  obtain ⟨w', h1, h2⟩ := ha (zs z m w) m (by rw [zg_zs]; exact hz)
  rw [h1, bnd_s, zs_zs]
  exact hk w' h2
theorem iandM (x : Int) : 0 ≤ iand x 2147483647 ∧ iand x 2147483647 < 2147483648 := by
  unfold iand
  have hm : (ii 2147483647).toBitVec.toNat = 2147483647 := by decide
  have h1 : (ii x &&& ii 2147483647).toBitVec.toNat ≤ 2147483647 := by
    show ((ii x).toBitVec &&& (ii 2147483647).toBitVec).toNat ≤ 2147483647
    rw [BitVec.toNat_and]
    exact Nat.le_trans Nat.and_le_right (Nat.le_of_eq hm)
  have h2 : (ii x &&& ii 2147483647).toInt = (((ii x &&& ii 2147483647).toBitVec.toNat : Nat) : Int) := by
    show (ii x &&& ii 2147483647).toBitVec.toInt = _
    rw [BitVec.toInt_eq_toNat_cond, if_pos (by omega)]
  rw [h2]
  omega
theorem drawn_n {sn : Nat} {sx : Nat → Int} {x : Int} (hx : 0 ≤ x) : ∃ d : Nat, d < 2147483648 ∧ ∀ z, f_L_drawn z sn sx x = some (z, (d : Int)) := by
  by_cases q : (sn : Int) ≤ x
  · have h := iandM (wr (wr (15526151 * wr (x + 3)) + 14177))
    refine ⟨(iand (wr (wr (15526151 * wr (x + 3)) + 14177)) 2147483647).toNat, by omega, fun z => ?_⟩
    unfold f_L_drawn
    rw [if_pos q, Int.toNat_of_nonneg h.1]
  · have h := iandM (sx x.toNat)
    refine ⟨(iand (sx x.toNat) 2147483647).toNat, by omega, fun z => ?_⟩
    unfold f_L_drawn
    rw [if_neg q, gd_t ⟨hx, by omega⟩, Int.toNat_of_nonneg h.1]
/-- between two actions -/
def Mid (z : ZQ) : Prop := ∃ (nn : Nat → Int) (wB : World), W2 z nn wB ∧ DecB wB ∧ NT nn wB
section LW
variable {sn : Nat} {sx : Nat → Int}
def Lp (T9 i : Nat) (o : (ZQ × Nat × Int × Int) ⊕ (ZQ × Int)) : Prop := ∃ s, o = Sum.inl s ∧ ∃ (z' : ZQ) (t' : Nat), s = (z', t', 1, ((i + 1 : Nat) : Int)) ∧ t' ≤ T9 ∧ Mid z'
theorem law_338 {z : ZQ} {t T9 i : Nat} {x5 : Int} (hi : i < 1000) (hz : Mid z) (ht : t ≤ T9) (h9 : T9 ≤ 300000) : Eo (Lp T9 i) (f_L_law_338 z sn sx t x5 (i : Int)) := by
  unfold f_L_law_338 f_L_law_343
  refine Eo_g (by omega) ?_
  refine Eo_g (by omega) ?_
  refine Eo_l ?_
  rw [wr_s (a := (i : Int) + 1) (by omega) (by omega)]
  exact Eo_r ⟨_, rfl, z, t, rfl, ht, hz⟩
theorem law_304 {z : ZQ} {t T9 i x : Nat} {x5 : Int} (hi : i < 1000) (hx : x < 2147483648) (hz : Mid z) (ht : t + 4000 ≤ T9) (h9 : T9 ≤ 300000) : Eo (Lp T9 i) (f_L_law_304 z sn sx t x5 (i : Int) (x : Int)) := by
  obtain ⟨nn, wB, hW, hd, hN⟩ := hz
  have d3 : idiv (x : Int) 3 = ((x / 3 : Nat) : Int) := by rw [idiv_n (by omega) (by omega) (by decide) (by decide)]; omega
  have d7 : idiv (x : Int) 7 = ((x / 7 : Nat) : Int) := by rw [idiv_n (by omega) (by omega) (by decide) (by decide)]; omega
  have i9 : irem (i : Int) 9 = ((i % 9 : Nat) : Int) := by rw [irem_n (by omega) (by omega) (by decide) (by decide)]; omega
  unfold f_L_law_304
  rw [d3, d7, i9]
  refine Eo_g (by omega) ?_
  refine Eo_b (alike_law hd hN hW (by omega)) (fun b hb => ?_)
  obtain ⟨z1, v1⟩ := b
  obtain ⟨hz1, hv1⟩ := hb
  have hv1 : v1 = 1 := hv1
  subst hv1
  have hz1 : W2 z1 nn wB := hz1
  dsimp only
  refine Eo_f z10 ?_
  by_cases q : 0 < i % 9
  · refine Eo_t (by omega) ?_
    exact law_338 hi ⟨nn, wB, hz1, hd, hN⟩ (by omega) h9
  · refine Eo_f (by omega) ?_
    refine Eo_b (all_law (m := true) hd hN (by omega) hz1) (fun b hb => ?_)
    obtain ⟨z2, v2⟩ := b
    obtain ⟨hz2, hv2⟩ := hb
    have hv2 : v2 = 1 := hv2
    subst hv2
    have hz2 : W2 z2 nn wB := hz2
    dsimp only
    refine Eo_f z10 ?_
    exact law_338 hi ⟨nn, wB, hz2, hd, hN⟩ (by omega) h9
theorem law_268 {z : ZQ} {t T9 i x k n : Nat} {x5 r : Int} {nn : Nat → Int} {wA wB wB' : World} (hi : i < 1000) (hx : x < 2147483648) (hk : k = x % 16) (hn : n = x / 16) (h0 : II wA wB) (hN : NT nn wB) (hW : W2 z nn wB') (hd' : DecB wB') (hE : Ef wB wB' k n r) (ht : t + 4062 ≤ T9) (h9 : T9 ≤ 300000) : Eo (Lp T9 i) (f_L_law_268 z sn sx t x5 (i : Int) (x : Int) r 1) := by
  have i499 : irem (x : Int) 499 = ((x % 499 : Nat) : Int) := by rw [irem_n (by omega) (by omega) (by decide) (by decide)]; omega
  have i3 : irem (i : Int) 3 = ((i % 3 : Nat) : Int) := by rw [irem_n (by omega) (by omega) (by decide) (by decide)]; omega
  obtain ⟨z1, c1, c2, c3, c4⟩ := count_law (z := z) (r := r) h0 (by rw [hW.2.2]; exact hN) hx hk hn hE
  have hW1 : W2 z1 z1.2.2 wB' := ⟨by rw [c2]; exact hW.1, by rw [c3]; exact hW.2.1, rfl⟩
  unfold f_L_law_268
  rw [i499, i3]
  refine Eo_g (by omega) ?_
  rw [c1, bnd_s]
  refine Eo_f z10 ?_
  by_cases q : 0 < i % 3
  · refine Eo_t (by omega) ?_
    exact law_304 hi hx ⟨_, wB', hW1, hd', c4⟩ (by omega) h9
  · refine Eo_f (by omega) ?_
    obtain ⟨w2, e2, g2⟩ := refuses_law (m := true) (x := x % 499) (hW1.g true) hd' c4 (by omega)
    rw [e2, bnd_s]
    refine Eo_f z10 ?_
    exact law_304 hi hx ⟨_, wB', hW1.s true g2, hd', c4⟩ (by omega) h9
theorem law_226 {z : ZQ} {t T9 i x : Nat} {x5 : Int} (hi : i < 1000) (hx : x < 2147483648) (hz : Mid z) (ht : t + 4126 ≤ T9) (h9 : T9 ≤ 300000) : Eo (Lp T9 i) (f_L_law_226 z sn sx t x5 (i : Int) (x : Int)) := by
  obtain ⟨nn, wB, hW, hd, hN⟩ := hz
  have im : irem (x : Int) 9973 = ((x % 9973 : Nat) : Int) := by rw [irem_n (by omega) (by omega) (by decide) (by decide)]; omega
  obtain ⟨wB', r, hA, hd', hE⟩ := act_law (k := x % 16) (n := x / 16) hW.1 hd hN hx rfl rfl
  obtain ⟨w1, e1, g1⟩ := hA z false (hW.g false) hW.2.2
  have e1 : f_L_act z false (x : Int) = some (zs z false w1, r) := e1
  have ht1 : zg (zs z false w1) true = z.2.1 := rfl
  obtain ⟨w2, e2, g2⟩ := refuses_law (z := zs z false w1) (m := true) (x := x % 9973) (wB := wB) (by rw [ht1]; exact hW.2.1) hd (by rw [zs_n, hW.2.2]; exact hN) (by omega)
  obtain ⟨w3, e3, g3⟩ := hA (zs (zs z false w1) true w2) true (by rw [zg_zs]; exact g2) (by rw [zs_n, zs_n]; exact hW.2.2)
  have e3 : f_L_act (zs (zs z false w1) true w2) true (x : Int) = some (zs (zs (zs z false w1) true w2) true w3, r) := e3
  unfold f_L_law_226
  rw [im]
  refine Eo_g (by omega) ?_
  rw [e1, bnd_s]
  dsimp only
  rw [e2, bnd_s]
  refine Eo_f z10 ?_
  dsimp only
  rw [e3, bnd_s]
  refine Eo_t rfl ?_
  have hW3 : W2 (zs (zs (zs z false w1) true w2) true w3) nn wB' := ⟨g1, g3, hW.2.2⟩
  exact law_268 hi hx rfl rfl hW.1 hN hW3 hd' hE (by omega) h9
theorem law_351 {z : ZQ} {t : Nat} (hz : Mid z) (ht : t + 3030 ≤ 300000) : Eo (fun o : ZQ × Int => o.2 = 1) (f_L_law_351 z sn sx t 1) := by
  obtain ⟨nn, wB, hW, hd, hN⟩ := hz
  obtain ⟨d, hd1, hdr⟩ := drawn_n (sn := sn) (sx := sx) (x := 0) (Int.le_refl _)
  have d31 : idiv (d : Int) 31 = ((d / 31 : Nat) : Int) := by rw [idiv_n (by omega) (by omega) (by decide) (by decide)]; omega
  unfold f_L_law_351
  refine Eo_g ht ?_
  refine Eo_f z10 ?_
  rw [hdr z, bnd_s]
  dsimp only
  rw [d31]
  refine Eo_b (all_law (m := false) hd hN (by omega) hW) (fun b hb => ?_)
  obtain ⟨z1, v1⟩ := b
  obtain ⟨hz1, hv1⟩ := hb
  have hv1 : v1 = 1 := hv1
  subst hv1
  have hz1 : W2 z1 nn wB := hz1
  dsimp only
  refine Eo_f z10 ?_
  obtain ⟨z2, e2⟩ := ends_law (hz1.g false) (by rw [hz1.2.2, hN.1, (num_AB (hz1.g false)).1])
  rw [e2, bnd_s]
  refine Eo_f z10 ?_
  exact Eo_r rfl
theorem law_157 {N : Nat} (hN : N ≤ 60) : ∀ (j i t : Nat) (z : ZQ), i + j = N → t ≤ 12 + 4126 * i → Mid z → Eo (fun o : ZQ × Int => o.2 = 1) (f_L_law_157 z sn sx t 1 (N : Int) (i : Int)) := by
  intro j
  induction j with
  | zero =>
    intro i t z hi ht hz
    unfold f_L_law_157
    refine Eo_out ?_
    show Eo _ (f_L_law_157B z sn sx t 1 (N : Int) (i : Int))
    unfold f_L_law_157B
    refine Eo_g (by omega) ?_
    refine Eo_t (by omega) ?_
    exact Eo_b (law_351 hz (by omega)) (fun b hb => Eo_r ⟨b, rfl, hb⟩)
  | succ j ih =>
    intro i t z hi ht hz
    unfold f_L_law_157
    refine Eo_step (fun s => ∃ (z' : ZQ) (t' : Nat), s = (z', t', 1, ((i + 1 : Nat) : Int)) ∧ t' ≤ 12 + 4126 * (i + 1) ∧ Mid z') ?_ ?_
    · show Eo (Lp (12 + 4126 * (i + 1)) i) (f_L_law_157B z sn sx t 1 (N : Int) (i : Int))
      have w1 : wr (1 + (i : Int)) = 1 + (i : Int) := wr_s (by omega) (by omega)
      obtain ⟨d, hd1, hdr⟩ := drawn_n (sn := sn) (sx := sx) (x := 1 + (i : Int)) (by omega)
      have d16 : idiv (d : Int) 16 = ((d / 16 : Nat) : Int) := by rw [idiv_n (by omega) (by omega) (by decide) (by decide)]; omega
      have w2 : wr (((d / 16 : Nat) : Int) * 16) = ((d / 16 * 16 : Nat) : Int) := by rw [wr_s (by omega) (by omega)]; omega
      have w3 : wr (((d / 16 * 16 : Nat) : Int) + 11) = ((d / 16 * 16 + 11 : Nat) : Int) := by rw [wr_s (by omega) (by omega)]; omega
      have k224 : Eo (Lp (12 + 4126 * (i + 1)) i) (f_L_law_224 z sn sx t (N : Int) (i : Int) (d : Int)) := by
        unfold f_L_law_224
        refine Eo_g (by omega) ?_
        exact law_226 (by omega) hd1 hz (by omega) (by omega)
      unfold f_L_law_157B
      rw [w1]
      refine Eo_g (by omega) ?_
      refine Eo_f (by omega) ?_
      refine Eo_f z10 ?_
      rw [hdr z, bnd_s]
      dsimp only
      rw [d16, w2, w3]
      by_cases q : 5 ≤ i
      · refine Eo_t (by omega) ?_
        by_cases q2 : i ≤ 20
        · exact Eo_t (by omega) k224
        · refine Eo_f (by omega) ?_
          by_cases q3 : irem (i : Int) 4 = 0
          · exact Eo_t q3 (law_226 (by omega) (by omega) hz (by omega) (by omega))
          · exact Eo_f q3 k224
      · exact Eo_f (by omega) (law_226 (by omega) (by omega) hz (by omega) (by omega))
    · rintro s ⟨z', t', rfl, ht', hz'⟩
      exact ih (i + 1) t' z' (by omega) ht' hz'
theorem law_141 {z : ZQ} {t : Nat} (hz : Mid z) (ht : t ≤ 12) : Eo (fun o : ZQ × Int => o.2 = 1) (f_L_law_141 z sn sx t 1) := by
  obtain ⟨d, hd1, hdr⟩ := drawn_n (sn := sn) (sx := sx) (x := 0) (Int.le_refl _)
  have i31 : irem (d : Int) 31 = ((d % 31 : Nat) : Int) := by rw [irem_n (by omega) (by omega) (by decide) (by decide)]; omega
  have w1 : wr (30 + ((d % 31 : Nat) : Int)) = ((30 + d % 31 : Nat) : Int) := by rw [wr_s (by omega) (by omega)]; omega
  unfold f_L_law_141
  refine Eo_g (by omega) ?_
  rw [hdr z, bnd_s]
  dsimp only
  rw [i31, w1]
  refine Eo_l ?_
  exact law_157 (by omega) (30 + d % 31) 0 t z (by omega) (by omega) hz
theorem law_48 {B1 B2 B3 B4 B5 B6 : World} (c1 : ActQ (fun z m => f_L_declares z m 0 2 0 1) wB0 B1 1) (c2 : ActQ (fun z m => f_L_declares z m 1 2 0 2) B1 B2 1) (c3 : ActQ (fun z m => f_L_declares z m 2 1 0 1) B2 B3 1) (c4 : ActQ (fun z m => f_L_declares z m 3 2 1 1) B3 B4 1) (c5 : ActQ (fun z m => f_L_declares z m 4 2 2 1) B4 B5 1) (c6 : ActQ (fun z m => f_L_declares z m 5 3 3 2) B5 B6 1) {z : ZQ} {u : Bool} {t i : Nat} (hi : i < 10) (ht : t + 6 ≤ 300000) (hz : II (zg z u) wB0) : Eo (fun o => ∃ s, o = Sum.inl s ∧ ∃ w', s = (zs z u w', t + 6, 1, ((i + 1 : Nat) : Int)) ∧ II w' B6) (f_L_law_48 z sn sx t (i : Int) u) := by
  unfold f_L_law_48
  refine Eo_g ht ?_
  refine Ec_bnd c1 hz (fun w hw => ?_)
  refine Eo_t rfl ?_
  refine Ec_bnd2 c2 hw (fun w hw => ?_)
  refine Eo_t rfl ?_
  refine Ec_bnd2 c3 hw (fun w hw => ?_)
  refine Eo_t rfl ?_
  refine Ec_bnd2 c4 hw (fun w hw => ?_)
  refine Eo_t rfl ?_
  refine Ec_bnd2 c5 hw (fun w hw => ?_)
  refine Eo_t rfl ?_
  refine Ec_bnd2 c6 hw (fun w hw => ?_)
  refine Eo_t rfl ?_
  unfold f_L_law_133
  refine Eo_g (by omega) ?_
  refine Eo_l ?_
  rw [wr_s (a := (i : Int) + 1) (by omega) (by omega)]
  exact Eo_r ⟨_, rfl, w, rfl, hw⟩
theorem law_27 : Eo (fun o : ZQ × Int => o.2 = 1) (f_L_law (wA0, wA0, fun _ => 0) sn sx) := by
  obtain ⟨B1, B2, B3, B4, B5, B6, c1, c2, c3, c4, c5, c6, hd, hN⟩ := dec_six
  unfold f_L_law f_L_law_27
  refine Eo_step (fun s => ∃ w', s = (zs (wA0, wA0, fun _ => 0) false w', 6, 1, ((1 : Nat) : Int)) ∧ II w' B6) ?_ ?_
  · show Eo _ (f_L_law_27B (wA0, wA0, fun _ => 0) sn sx 0 1 0)
    unfold f_L_law_27B
    refine Eo_g (by omega) ?_
    refine Eo_f (by decide) ?_
    refine Eo_f z10 ?_
    refine Eo_t rfl ?_
    obtain ⟨o, e, s, rfl, w', rfl, hw⟩ := law_48 (sn := sn) (sx := sx) (i := 0) (t := 0) c1 c2 c3 c4 c5 c6 (by omega) (by omega) (z := (wA0, wA0, fun _ => 0)) (u := false) start_II
    exact ⟨_, e, _, rfl, w', rfl, hw⟩
  · rintro s ⟨w1, rfl, hw1⟩
    refine Eo_step (fun s => ∃ w', s = (zs (zs (wA0, wA0, fun _ => 0) false w1) true w', 12, 1, ((2 : Nat) : Int)) ∧ II w' B6) ?_ ?_
    · show Eo _ (f_L_law_27B (zs (wA0, wA0, fun _ => 0) false w1) sn sx 6 1 ((1 : Nat) : Int))
      unfold f_L_law_27B
      refine Eo_g (by omega) ?_
      refine Eo_f (by decide) ?_
      refine Eo_f z10 ?_
      refine Eo_f (by decide) ?_
      obtain ⟨o, e, s, rfl, w', rfl, hw⟩ := law_48 (sn := sn) (sx := sx) (i := 1) (t := 6) c1 c2 c3 c4 c5 c6 (by omega) (by omega) (z := zs (wA0, wA0, fun _ => 0) false w1) (u := true) start_II
      exact ⟨_, e, _, rfl, w', rfl, hw⟩
    · rintro s ⟨w2, rfl, hw2⟩
      refine Eo_out ?_
      show Eo _ (f_L_law_27B (zs (zs (wA0, wA0, fun _ => 0) false w1) true w2) sn sx 12 1 ((2 : Nat) : Int))
      unfold f_L_law_27B
      refine Eo_g (by omega) ?_
      refine Eo_t (by decide) ?_
      exact Eo_b (law_141 ⟨fun _ => 0, B6, ⟨hw1, hw2, rfl⟩, hd, hN⟩ (by omega)) (fun b hb => Eo_r ⟨b, rfl, hb⟩)
end LW
theorem law_ok : LawOk := by
  intro sn sx _ _
  obtain ⟨b, h1, h2⟩ := law_27 (sn := sn) (sx := sx)
  obtain ⟨z', r⟩ := b
  have h2 : r = 1 := h2
  subst h2
  exact ⟨z', h1⟩
