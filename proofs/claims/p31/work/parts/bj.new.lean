/-! BOTH: built anew, or taken back; fact -/
theorem both_new {nF m d now top a b : Nat} {L g : Nat → Nat} {wA wB : World} (hL : Low nF m d now top L wA wB) (hr : IRef g wA) (hV : VV (wA 104)) (hVB : VB wB) (hb : b < 4) (hab : a ≤ b) (hout : ∀ h, h < 4 → ¬ (a ≤ h ∧ h ≤ b) → HAt nF m L wA (g h) h) :
    ∃ w' v u', f_Dm_renew wA (a : Int) (b : Int) = some (w', v) ∧ f_Re_buildAll wB = some (u', v) ∧ FrAll wB u' ∧ VB u' ∧ VV (w' 104) ∧ (∀ c, c < 103 → w' c = wA c) ∧ ((v = 1 ∧ ∃ g', Inv nF m d now top L g' w' u') ∨ (v = 0 ∧ F1 g wA w')) := by
  have hS := hL.S
  have hm : m ≤ 12 := hL.2.2.1.1.2.2.1
  obtain ⟨w', v, r1, r2⟩ := renew_n hS.A hV hr hb hab
  obtain ⟨u', v', q1, q2, q3, q4, q5⟩ := buildAllB_n hS.B hVB
  have hB20 : ∀ c, 2 ≤ c → c < 20 → u' c = wB c := fun c h1 h2 => q2.cell (by omega) (by omega)
  have hB1 : ∀ k, k = 1 ∨ k = 7 ∨ k = 14 ∨ k = 15 → u' 1 k = wB 1 k := fun k hk => q2.f (by omega) (by omega)
  rcases r2 with ⟨hv, s1, s2, s3, s4, s5, s6⟩ | ⟨hv, s1, s2, h, h1, h2, hO⟩
  · have hL1 : Low nF m d now top L w' wB := Low_congr (fun c hc => s4 c (by omega)) (fun _ _ _ => rfl) (fun _ _ => rfl) hL
    have hA : ∀ h, h < 4 → HAt nF m L w' (swG g a b h) h := fun h h4 => by
      by_cases q : a ≤ h ∧ h ≤ b
      · exact s5 h q.1 q.2
      · obtain ⟨e, f⟩ := s6 h h4 q
        rw [e]
        exact HAt_congr hm (fun c hc => s4 c (by omega)) f (hout h h4 q)
    have hB : v' = 1 ∧ ∀ h, h < 4 → HBt nF m L u' h := by
      rcases q5 with z | ⟨-, h, h4, hO⟩
      · exact z
      · exact absurd ((hA h h4).no hL1.S hO) (fun z => z)
    refine ⟨w', v, u', r1, by rw [hv, ← hB.1]; exact q1, q2, q3, s2, s4, Or.inl ⟨hv, swG g a b, ?_⟩⟩
    exact Inv_of (Low_congr (fun c hc => s4 c (by omega)) hB20 hB1 hL) s1 (fun h h4 => (hA h h4).c s3) hB.2 s2 q3
  · have hL1 : Low nF m d now top L wA u' := Low_congr (fun _ _ => rfl) hB20 hB1 hL
    have hB : v' = 0 := by
      rcases q5 with ⟨-, z⟩ | ⟨z, -⟩
      · exact absurd ((z h (by omega)).no hL1.S hO) (fun z => z)
      · exact z
    exact ⟨w', v, u', r1, by rw [hv, ← hB]; exact q1, q2, q3, s2, fun c hc => s1.1 c hc, Or.inr ⟨hv, s1⟩⟩
theorem both_back {nF m d now top : Nat} {L g : Nat → Nat} {wA wB : World} (hL : Low nF m d now top L wA wB) (hr : IRef g wA) (hV : VV (wA 104)) (hVB : VB wB) (hA : ∀ h, h < 4 → HAc nF m L wA (g h) now h) : ∃ u', f_Re_buildAll wB = some (u', 1) ∧ FrAll wB u' ∧ Inv nF m d now top L g wA u' := by
  have hS := hL.S
  obtain ⟨u', v', q1, q2, q3, q4, q5⟩ := buildAllB_n hS.B hVB
  have hB20 : ∀ c, 2 ≤ c → c < 20 → u' c = wB c := fun c h1 h2 => q2.cell (by omega) (by omega)
  have hB1 : ∀ k, k = 1 ∨ k = 7 ∨ k = 14 ∨ k = 15 → u' 1 k = wB 1 k := fun k hk => q2.f (by omega) (by omega)
  have hB : v' = 1 ∧ ∀ h, h < 4 → HBt nF m L u' h := by
    rcases q5 with z | ⟨-, h, h4, hO⟩
    · exact z
    · exact absurd ((hA h h4).t.no hS hO) (fun z => z)
  exact ⟨u', by rw [← hB.1]; exact q1, q2, Inv_of (Low_congr (fun _ _ => rfl) hB20 hB1 hL) hr hA hB.2 hV q3⟩
theorem RrA_fac {m : Nat} {w w' : World} (hm : m ≤ 12) (h : ∀ c, 14 ≤ c → c < 98 → w' c = w c) : RrA m w' = RrA m w := by
  unfold RrA Rof
  funext R
  refine propext (exists_congr fun i => and_congr_right fun hi => ?_)
  unfold FA GA
  rw [RB_congr (h _ (by omega) (by omega)) (h _ (by omega) (by omega)) (h _ (by omega) (by omega)) (h _ (by omega) (by omega)), h _ (by omega) (by omega)]
theorem VB_congr {w w' : World} (h23 : w' 23 = w 23) (h24 : w' 24 = w 24) (h : VB w) : VB w' := fun v hv => by
  rw [h24] at hv
  rw [h23]
  exact h v hv
theorem st_fact : St_fact II := by
  intro wA wB hII x1 x2 x3 x4 x5 x6 x7 _ _ _ _ _ _ _
  obtain ⟨nF, m, d, now, top, L, g, hI⟩ := id hII
  obtain ⟨i1, i2, i3, i4, i5, i6, i7, i8, i9, i10, i11⟩ := id hI
  have hm : m ≤ 12 := i3.1.2.2.1
  have n7A : wA 7 0 = (nF : Int) := i2.1.1
  have n7B : wB 1 7 = (nF : Int) := i2.2.1.1
  have h24 : nF ≤ 24 := i2.1.2.1
  have hrest : ∀ e : Nat, ∀ x : Int, ¬ x = 0 → e ≠ 0 → x = hmL 1 2 3 e → (e = 1 ∨ e = 2 ∨ e = 3) → f_Dm_fact wA x1 x2 x3 x4 x5 x6 x7 = some (wA, e, 0) → f_Re_fact wB x1 x2 x3 x4 x5 x6 x7 = f_Re_fact_96 wB x1 x2 x3 x4 x5 x6 x7 x → ∃ (oA : World × Nat × Int) (oB : World × Int), f_Dm_fact wA x1 x2 x3 x4 x5 x6 x7 = some oA ∧ f_Re_fact wB x1 x2 x3 x4 x5 x6 x7 = some oB ∧ f_Re_thrown oB.1 = some (hmL 1 2 3 oA.2.1) ∧ (oA.2.1 = 0 ∨ oA.2.1 = 1 ∨ oA.2.1 = 2 ∨ oA.2.1 = 3) ∧ (oA.2.1 = 0 → oA.2.2 = oB.2) ∧ II oA.1 oB.1 := fun e x hx he he2 he3 h1 h2 =>
    no_v (e := e) (x := x) (fun e => e = 0 ∨ e = 1 ∨ e = 2 ∨ e = 3) hII he h1 (by rw [h2, fact96_no hx]) he2 (Or.inr he3)
  rcases decl_both i1 x1 with ⟨r, rfl, hr, hd, hA, hB⟩ | ⟨hz, hA, hB⟩
  · obtain ⟨v, hv, hv2⟩ := permits_n (so := 0) (x := x2) (y := x3) (z := x4) i1.1 hr (by omega)
    have hv : f_Sc_permits wA (r : Int) 0 x2 x3 x4 = some v := hv
    obtain ⟨u, hu, hu2⟩ := areValues_n (fr := 0) (so := 0) (x := x2) (y := x3) (z := x4) i1.T hr (Or.inl ⟨rfl, rfl⟩)
    have e3 : wB 3 r = wA 3 r := (i1.2 r hr).1
    rw [e3] at hu2
    have hBf : ∀ s : Int, f_Re_fact_58 wB (r : Int) x2 x3 x4 x5 x6 x7 s = if s = 0 then f_Re_fact_96 wB (r : Int) x2 x3 x4 x5 x6 x7 2 else (if (nF : Int) = 24 then f_Re_fact_96 wB (r : Int) x2 x3 x4 x5 x6 x7 3 else f_Re_fact_96 wB (r : Int) x2 x3 x4 x5 x6 x7 0) := fun s => by
      unfold f_Re_fact_58
      rw [hB, bnd_s, if_neg z10, n7B]
    have hBall : f_Re_fact wB (r : Int) x2 x3 x4 x5 x6 x7 = if (u = 1 ∧ (1 ≤ x5 ∧ x5 ≤ 100) ∧ (0 ≤ x6 ∧ x6 ≤ 3) ∧ (x6 ≤ x7 ∧ x7 ≤ 3)) then f_Re_fact_58 wB (r : Int) x2 x3 x4 x5 x6 x7 1 else f_Re_fact_58 wB (r : Int) x2 x3 x4 x5 x6 x7 0 := by
      unfold f_Re_fact f_Re_fact_57
      rw [hB, bnd_s, if_neg z10, hu, bnd_s]
      rcases hu2 with ⟨rfl, -⟩ | ⟨rfl, -⟩
      · rw [if_neg z10, inB_n, bnd_s]
        by_cases q5 : 1 ≤ x5 ∧ x5 ≤ 100
        · rw [if_pos q5, if_neg z10, inB_n, bnd_s]
          by_cases q6 : 0 ≤ x6 ∧ x6 ≤ 3
          · rw [if_pos q6, if_neg z10, inB_n, bnd_s]
            by_cases q7 : x6 ≤ x7 ∧ x7 ≤ 3
            · rw [if_pos q7, if_neg z10, if_pos ⟨rfl, q5, q6, q7⟩]
            · rw [if_neg q7, if_pos rfl, if_neg (fun z => q7 z.2.2.2)]
          · rw [if_neg q6, if_pos rfl, if_neg (fun z => q6 z.2.2.1)]
        · rw [if_neg q5, if_pos rfl, if_neg (fun z => q5 z.2.1)]
      · rw [if_pos rfl, if_neg (fun z => absurd z.1 (by decide))]
    by_cases qok : (∀ j, j < 3 → okC 0 (wA 3 r).toNat j (pick x2 x3 x4 j)) ∧ (1 ≤ x5 ∧ x5 ≤ 100) ∧ (0 ≤ x6 ∧ x6 ≤ 3) ∧ (x6 ≤ x7 ∧ x7 ≤ 3)
    · obtain ⟨ho, q5, q6, q7⟩ := qok
      have hv1 : v = 1 := by
        rcases hv2 with ⟨z, -⟩ | ⟨-, z⟩
        · exact z
        · exact absurd ho z
      have hu1 : u = 1 := by
        rcases hu2 with ⟨z, -⟩ | ⟨-, z⟩
        · exact z
        · exact absurd ho z
      subst hv1
      obtain ⟨a, b, c, rfl, rfl, rfl, ha, hb, hc⟩ := ok_pk ho
      have hA0 : f_Dm_fact wA (r : Int) (a : Int) (b : Int) (c : Int) x5 x6 x7 = if (nF : Int) < 24 then (bnd (f_Fa_append wA (r : Int) ((pk a b c : Nat) : Int) x5 x6 x7) fun v30 => bnd (f_Dm_renew v30 x6 x7) fun v33 => if v33.2 = 0 then (bnd (f_Fa_takeBack v33.1 ) fun v39 => some (v39, 3, 0)) else (some (v33.1, 0, wr ((v33.1 7 0) - 1)))) else some (wA, 3, 0) := by
        unfold f_Dm_fact
        rw [hA, bnd_s, if_neg z10, hv, bnd_s, if_neg z10, if_neg (by omega), if_neg (by omega), if_neg (by omega), if_neg (by omega), if_neg (by omega), if_pos (by omega), packed_n ha hb hc, bnd_s, n7A]
      have hB0 : f_Re_fact wB (r : Int) (a : Int) (b : Int) (c : Int) x5 x6 x7 = if (nF : Int) = 24 then f_Re_fact_96 wB (r : Int) (a : Int) (b : Int) (c : Int) x5 x6 x7 3 else f_Re_fact_96 wB (r : Int) (a : Int) (b : Int) (c : Int) x5 x6 x7 0 := by
        rw [hBall, if_pos ⟨hu1, q5, q6, q7⟩, hBf, if_neg z10]
      by_cases q24 : nF = 24
      · exact hrest 3 3 z30 (by decide) rfl (by omega) (by rw [hA0, if_neg (by omega)]) (by rw [hB0, if_pos (by omega)])
      have hlt : nF < 24 := by omega
      obtain ⟨fr, rfl⟩ : ∃ n : Nat, x6 = (n : Int) := ⟨x6.toNat, by omega⟩
      obtain ⟨to, rfl⟩ : ∃ n : Nat, x7 = (n : Int) := ⟨x7.toNat, by omega⟩
      have hcn := cnt_le (P := fun f => decide (wA 13 f = 0)) nF
      have hap := append_n (r := (r : Int)) (k := ((pk a b c : Nat) : Int)) (x5 := x5) (x6 := (fr : Int)) (x7 := (to : Int)) n7A hlt i2.2.2.2 (by omega)
      obtain ⟨wA1, hw1⟩ : ∃ w, w = fApp wA nF (r : Int) ((pk a b c : Nat) : Int) x5 (fr : Int) (to : Int) := ⟨_, rfl⟩
      obtain ⟨wB1, hu1⟩ : ∃ w, w = fcB (up wB 1 0 0) nF (r : Int) (a : Int) (b : Int) (c : Int) x5 (fr : Int) (to : Int) := ⟨_, rfl⟩
      have hA1 : ∀ k, (k < 7 ∨ 13 < k) → wA1 k = wA k := fun k hk => by
        rw [hw1]; unfold fApp; funext q
        simp [up, show k ≠ 7 by omega, show k ≠ 8 by omega, show k ≠ 9 by omega, show k ≠ 10 by omega, show k ≠ 11 by omega, show k ≠ 12 by omega, show k ≠ 13 by omega]
      have hAo : ∀ k f, 8 ≤ k → k ≤ 13 → f < nF → wA1 k f = wA k f := fun k f h1 h2 h3 => by
        rw [hw1]; unfold fApp
        simp [up, show f ≠ nF by omega, show k ≠ 7 by omega]
      have hB1c : ∀ k, k ≠ 1 → (k < 7 ∨ 12 < k) → wB1 k = wB k := fun k hk hk2 => by
        rw [hu1]; unfold fcB; funext q
        simp [up, hk, show k ≠ 7 by omega, show k ≠ 8 by omega, show k ≠ 9 by omega, show k ≠ 10 by omega, show k ≠ 11 by omega, show k ≠ 12 by omega]
      have hB1f : ∀ k, k ≠ 0 → k ≠ 7 → wB1 1 k = wB 1 k := fun k h1 h2 => by
        rw [hu1]; unfold fcB
        simp [up, h1, h2]
      have hB10 : wB1 1 0 = 0 := by rw [hu1]; unfold fcB; simp [up]
      have hB17 : wB1 1 7 = ((nF + 1 : Nat) : Int) := by rw [hu1]; unfold fcB; simp [up]
      have hBo : ∀ k f, 7 ≤ k → k ≤ 12 → k ≠ 8 → f < nF → wB1 k f = wB k f := fun k f h1 h2 h3 h4 => by
        rw [hu1]; unfold fcB
        simp [up, h3, show f ≠ nF by omega, show k ≠ 1 by omega]
      have hB8 : ∀ k, k < 3 * nF → wB1 8 k = wB 8 k := fun k hk => by
        rw [hu1]; unfold fcB
        simp [up, show k ≠ 3 * nF by omega, show k ≠ 3 * nF + 1 by omega, show k ≠ 3 * nF + 2 by omega]
      have e11 : wA1 11 nF = (fr : Int) := by rw [hw1]; unfold fApp; simp [up]
      have e12 : wA1 12 nF = (to : Int) := by rw [hw1]; unfold fApp; simp [up]
      have e70 : wA1 7 0 = ((nF + 1 : Nat) : Int) := by rw [hw1]; unfold fApp; simp [up]
      have e71 : wA1 7 1 = wA 7 1 + 1 := by rw [hw1]; unfold fApp; simp [up]
      have hFac : IFac (nF + 1) wA1 wB1 := by
        rw [hw1, hu1]
        refine IFac_add i2 hlt i1 hr hd ⟨ha, hb, hc⟩ (fun j hj h3 => ?_) q5 ⟨by omega, by omega, by omega⟩
        have z := (okC_ge (show (wA 3 r).toNat ≤ j by omega)).mp (ho j hj)
        have : j = 0 ∨ j = 1 ∨ j = 2 := by omega
        rcases this with rfl | rfl | rfl
        · have z : (a : Int) = 0 := z
          show cl0 _ = 0
          rw [cl0_pk ha hb hc]; omega
        · have z : (b : Int) = 0 := z
          show cl1 _ = 0
          rw [cl1_pk ha hb hc]; omega
        · have z : (c : Int) = 0 := z
          show cl2 _ = 0
          rw [cl2_pk ha hb hc]; omega
      have hL := hI.low
      have hL1 : Low (nF + 1) m d now top L wA1 wB1 := Low_fac (fun k _ hk => hA1 k hk) (fun k h1 h2 h3 => hB1c k (by omega) h3) (fun k hk => hB1f k (by omega) (by omega)) hL hFac
      have hr1 : IRef g wA1 := ⟨i8.1, i8.2.1, by rw [hA1 108 (by omega), hA1 109 (by omega)]; exact i8.2.2⟩
      have hV1 : VV (wA1 104) := by rw [hA1 104 (by omega)]; exact i10
      have hVB1 : VB wB1 := VB_congr (hB1c 23 (by omega) (by omega)) (hB1c 24 (by omega) (by omega)) i11
      have hRr : RrA m wA1 = RrA m wA := RrA_fac hm (fun k h1 h2 => hA1 k (by omega))
      obtain ⟨w', v, u', p1, p2, p3, p4, p5, p6, p7⟩ := both_new (a := fr) (b := to) hL1 hr1 hV1 hVB1 (by omega) (by omega) (fun h h4 hn => by
        have hg := i8.rng (i := h) (by omega)
        refine (HAc_g (nF' := nF + 1) (m' := m) (w' := wA1) ((i9 h h4).A.1) (fun k h1 h2 => hA1 k (by omega)) (fun k h1 h2 => hA1 k (by omega)) (FFA_more hAo ?_) (by rw [hRr]; exact RS.refl) ?_).t
        · rw [e11, e12]; omega
        · by_cases q : wA 150 0 = 0
          · exact Or.inl (by rw [hA1 150 (by omega)]; exact q)
          · refine Or.inr ⟨by rw [hA1 150 (by omega)], by rw [hA1 151 (by omega)], ?_⟩
            funext r' k' v'
            have := FCA_cut (hour := (h : Int)) hAo
            rw [← this]
            refine propext ⟨?_, ?_⟩
            · rintro ⟨f, hf, hh⟩
              by_cases qf : f = nF
              · subst qf
                have y1 := hh.1.2.1
                have y2 := hh.1.2.2.1
                rw [e11] at y1
                rw [e12] at y2
                omega
              · exact ⟨f, by omega, hh⟩
            · rintro ⟨f, hf, hh⟩
              exact ⟨f, by omega, hh⟩)
      have hBrun : f_Re_fact wB (r : Int) (a : Int) (b : Int) (c : Int) x5 (fr : Int) (to : Int) = fcK wB1 := by
        rw [hB0, if_neg (by omega), fact96_n n7B hlt, ← hu1]
      have u17 : u' 1 7 = ((nF + 1 : Nat) : Int) := by rw [p3.f (by omega) (by omega)]; exact hB17
      have u10 : u' 1 0 = 0 := by rw [p3.f (by omega) (by omega)]; exact hB10
      have w70 : w' 7 0 = ((nF + 1 : Nat) : Int) := by rw [p6 7 (by omega)]; exact e70
      have w71 : w' 7 1 = wA 7 1 + 1 := by rw [p6 7 (by omega)]; exact e71
      have ew : wr (((nF + 1 : Nat) : Int) - 1) = (nF : Int) := by rw [wr_of (x := ((nF + 1 : Nat) : Int) - 1) ⟨by omega, by omega⟩]; omega
      have ew2 : wr ((wA 7 1 + 1) - 1) = wA 7 1 := by
        have := i2.2.2.2
        rw [wr_of (x := (wA 7 1 + 1) - 1) ⟨by omega, by omega⟩]; omega
      rcases p7 with ⟨hv1, g', hInv⟩ | ⟨hv0, hF1⟩
      · refine ⟨(w', 0, (nF : Int)), (u', (nF : Int)), ?_, ?_, ?_, Or.inl rfl, fun _ => rfl, nF + 1, m, d, now, top, L, g', hInv⟩
        · rw [hA0, if_pos (by omega), hap, bnd_s, ← hw1, p1, bnd_s]
          show (if v = 0 then _ else some (w', 0, wr (w' 7 0 - 1))) = _
          rw [hv1, if_neg z10, w70, ew]
        · rw [hBrun]
          unfold fcK
          rw [p2, bnd_s]
          show (if v = 0 then _ else some (u', wr (u' 1 7 - 1))) = _
          rw [hv1, if_neg z10, u17, ew]
        · unfold f_Re_thrown
          show some (u' 1 0) = _
          rw [u10]
          rfl
      · obtain ⟨wA2, hw2⟩ : ∃ w, w = up (up w' 7 0 (nF : Int)) 7 1 (wA 7 1) := ⟨_, rfl⟩
        obtain ⟨wB2, hu2⟩ : ∃ w, w = up u' 1 7 (nF : Int) := ⟨_, rfl⟩
        have a2 : ∀ k, k ≠ 7 → wA2 k = w' k := fun k hk => by rw [hw2]; funext q; simp [up, hk]
        have b2 : ∀ k, k ≠ 1 → wB2 k = u' k := fun k hk => by rw [hu2]; funext q; simp [up, hk]
        have b21 : ∀ k, k ≠ 7 → wB2 1 k = u' 1 k := fun k hk => by rw [hu2]; simp [up, hk]
        have a2o : ∀ k, k < 98 → (k < 7 ∨ 13 < k) → wA2 k = wA k := fun k h1 h2 => by rw [a2 k (by omega), p6 k (by omega), hA1 k h2]
        have a2f : ∀ k f, 8 ≤ k → k ≤ 13 → f < nF → wA2 k f = wA k f := fun k f h1 h2 h3 => by rw [a2 k (by omega), p6 k (by omega), hAo k f h1 h2 h3]
        have b2o : ∀ k, 2 ≤ k → k < 20 → (k < 7 ∨ 12 < k) → wB2 k = wB k := fun k h1 h2 h3 => by rw [b2 k (by omega), p3.cell (by omega) (by omega), hB1c k (by omega) h3]
        have hFac2 : IFac nF wA2 wB2 := IFac_cut (a2o 3 (by omega) (by omega)) (by rw [hw2]; simp [up]) (by rw [hw2]; simp [up]) a2f (b2o 3 (by omega) (by omega) (by omega)) (by rw [hu2]; simp [up]) (fun k f h1 h2 h3 h4 => by rw [b2 k (by omega), p3.cell (by omega) (by omega), hBo k f h1 h2 h3 h4]) (fun k hk => by rw [b2 8 (by omega), p3.cell (by omega) (by omega), hB8 k hk]) i2
        have hL2 : Low nF m d now top L wA2 wB2 := Low_fac a2o b2o (fun k hk => by rw [b21 k (by omega), p3.f (by omega) (by omega), hB1f k (by omega) (by omega)]) hL hFac2
        have hr2 : IRef g wA2 := by
          have := hF1.ref hr1
          exact ⟨this.1, this.2.1, by rw [a2 108 (by omega), a2 109 (by omega)]; exact this.2.2⟩
        have hRr2 : RrA m wA2 = RrA m wA := RrA_fac hm (fun k h1 h2 => a2o k h2 (by omega))
        obtain ⟨u2, t1, t2, t3⟩ := both_back hL2 hr2 (by rw [a2 104 (by omega)]; exact p5) (VB_congr (b2 23 (by omega)) (b2 24 (by omega)) p4) (fun h h4 => by
          have hg := i8.rng (i := h) (by omega)
          refine HAc_g (nF' := nF) (m' := m) (w' := wA2) ((i9 h h4).A.1) (fun k h1 h2 => a2o k (by omega) (by omega)) (fun k h1 h2 => ?_) (fun r' k' => (FFA_cut a2f r' k').symm) (by rw [hRr2]; exact RS.refl) (Or.inr ⟨?_, ?_, FCA_cut a2f⟩)
          · rw [a2 k (by omega), hF1.2.1 h h4 k h1 h2, hA1 k (by omega)]
          · rw [a2 150 (by omega), hF1.2.2.2 150 (by omega), hA1 150 (by omega)]
          · rw [a2 151 (by omega), hF1.2.2.2 151 (by omega), hA1 151 (by omega)])
        refine ⟨(wA2, 3, 0), (up u2 1 0 3, 0), ?_, ?_, thrown_n, Or.inr (Or.inr (Or.inr rfl)), fun e => n30 e, nF, m, d, now, top, L, g, Inv_up10 t3⟩
        · rw [hA0, if_pos (by omega), hap, bnd_s, ← hw1, p1, bnd_s]
          show (if v = 0 then (bnd (f_Fa_takeBack w') fun v39 => some (v39, 3, 0)) else _) = _
          rw [hv0, if_pos rfl]
          unfold f_Fa_takeBack
          have e : up w' 7 0 (nF : Int) 7 1 = wA 7 1 + 1 := by simp [up, w71]
          rw [w70, ew, bl_s, e, ew2, bl_s, bnd_s, ← hw2]
        · rw [hBrun]
          unfold fcK
          rw [p2, bnd_s]
          show (if v = 0 then (bl (up u' 1 7 (wr (u' 1 7 - 1))) fun w39 => bnd (f_Re_buildAll w39) fun v41 => bnd (f_Re_refused v41.1 3) fun v44 => some (v44.1, 0)) else _) = _
          rw [hv0, if_pos rfl, u17, ew, bl_s, ← hu2, t1, bnd_s, refused_n, bnd_s]
    · refine hrest 2 2 z20 (by decide) rfl (by omega) ?_ ?_
      · unfold f_Dm_fact
        rw [hA, bnd_s, if_neg z10, hv, bnd_s]
        rcases hv2 with ⟨rfl, ho⟩ | ⟨rfl, -⟩
        · rw [if_neg z10]
          by_cases k1 : x5 < 1
          · rw [if_pos k1]
          · rw [if_neg k1]
            by_cases k2 : 100 < x5
            · rw [if_pos k2]
            · rw [if_neg k2]
              by_cases k3 : x6 < 0
              · rw [if_pos k3]
              · rw [if_neg k3]
                by_cases k4 : 4 ≤ x6
                · rw [if_pos k4]
                · rw [if_neg k4]
                  by_cases k5 : x7 < x6
                  · rw [if_pos k5]
                  · rw [if_neg k5]
                    by_cases k6 : x7 < 4
                    · exact absurd ⟨ho, ⟨by omega, by omega⟩, ⟨by omega, by omega⟩, by omega, by omega⟩ qok
                    · rw [if_neg k6]
        · rw [if_pos rfl]
      · rw [hBall]
        have : ¬ (u = 1 ∧ (1 ≤ x5 ∧ x5 ≤ 100) ∧ (0 ≤ x6 ∧ x6 ≤ 3) ∧ (x6 ≤ x7 ∧ x7 ≤ 3)) := fun z => by
          rcases hu2 with ⟨-, ho⟩ | ⟨z2, -⟩
          · exact qok ⟨ho, z.2⟩
          · rw [z2] at z; exact absurd z.1 (by decide)
        rw [if_neg this, hBf, if_pos rfl]
  · refine hrest 1 1 z10 (by decide) rfl (by omega) (by unfold f_Dm_fact; rw [hA, bnd_s, if_pos rfl]) ?_
    unfold f_Re_fact f_Re_fact_57 f_Re_fact_58
    rw [hB, bnd_s, if_pos rfl, bnd_s, if_pos rfl]
