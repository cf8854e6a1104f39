/-! MEANING: broken, by the set of tuples alone; what repair answers -/
theorem ISch_c {wA wA' wB wB' : World} (hA : ∀ c, 3 ≤ c → c ≤ 6 → wA' c = wA c) (hB : ∀ c, 2 ≤ c → c ≤ 5 → wB' c = wB c) (h : ISch wA wB) : ISch wA' wB' := by
  refine ⟨WfS_congr (fun c a b k => by rw [hA c (by omega) (by omega)]) h.1, fun r hr => ?_⟩
  rw [hB 3 (by omega) (by omega), hB 4 (by omega) (by omega), hB 5 (by omega) (by omega), hB 2 (by omega) (by omega), hA 3 (by omega) (by omega), hA 4 (by omega) (by omega), hA 5 (by omega) (by omega)]
  exact h.2 r hr
theorem IDen_c {d : Nat} {wA wA' wB wB' : World} (hA : ∀ c, 3 ≤ c → c < 94 → c ≠ 7 → c ≠ 13 → wA' c = wA c) (hB : ∀ c, 2 ≤ c → c < 20 → c ≠ 12 → wB' c = wB c) (h15 : wB' 1 15 = wB 1 15) (h : IDen d wA wB) : IDen d wA' wB' := by
  obtain ⟨d1, d2, d3, d4, d5⟩ := h
  have hSA : SA wA' = SA wA := SA_c5 (fun c a b => hA c (by omega) (by omega) (by omega) (by omega))
  have hSB : SA wB' = SA wB := SA_c5 (fun c a b => hB c (by omega) (by omega) (by omega))
  refine ⟨by rw [hA 14 (by omega) (by omega) (by omega) (by omega)]; exact d1, by rw [h15]; exact d2, d3, fun j hj => by rw [hA 20 (by omega) (by omega) (by omega) (by omega)]; exact d4 j hj, fun j hj => ?_⟩
  obtain ⟨e1, e2, e3, e4, e5⟩ := d5 j hj
  have eA : RB wA' (70 + 4 * j) = RB wA (70 + 4 * j) := RB_congr (hA _ (by omega) (by omega) (by omega) (by omega)) (hA _ (by omega) (by omega) (by omega) (by omega)) (hA _ (by omega) (by omega) (by omega) (by omega)) (hA _ (by omega) (by omega) (by omega) (by omega))
  have eB : RBB wB' (12 + j) = RBB wB (12 + j) := RBB_congr (fun c a b => hB c (by omega) (by omega) (by omega)) (12 + j)
  refine ⟨?_, ?_, by rw [eA, eB]; exact e3, by rw [eA]; exact e4, by rw [eA]; exact e5⟩
  · unfold DnA
    rw [eA, hSA, hA _ (by omega) (by omega) (by omega) (by omega)]
    exact e1
  · obtain ⟨h1, h2, h3, h4⟩ := e2
    exact ⟨h1, WfT_congr (fun c a b => hB c (by omega) (by omega) (by omega)) h2, by rw [eB, hB 16 (by omega) (by omega) (by omega)]; exact h3, by rw [eB, hSB]; exact h4⟩
theorem msk1 : ∀ k : Nat, k < 24 → ∀ j : Nat, j < 24 → iand (ishr (ishl 1 (k : Int)) (j : Int)) 1 = 1 → j = k := by decide +kernel
theorem msk1n : ∀ k : Nat, k < 24 → ∀ n : Nat, n < 25 → k < n → 0 < ishl 1 (k : Int) ∧ ishr (ishl 1 (k : Int)) (n : Int) = 0 := by decide +kernel
theorem msk2 : ∀ k : Nat, k < 24 → ∀ i : Nat, i < k → ∀ j : Nat, j < 24 → iand (ishr (ior (ishl 1 (k : Int)) (ishl 1 (i : Int))) (j : Int)) 1 = 1 → j = k ∨ j = i := by decide +kernel
theorem msk2n : ∀ k : Nat, k < 24 → ∀ i : Nat, i < k → ∀ n : Nat, n < 25 → k < n → 0 < ior (ishl 1 (k : Int)) (ishl 1 (i : Int)) ∧ ishr (ior (ishl 1 (k : Int)) (ishl 1 (i : Int))) (n : Int) = 0 := by decide +kernel
theorem broken_loopG {d t M N n : Nat} {w0 u0 : World} {ρ c ρ' c' : Nat → Nat} {Lc : Nat → List Nat} (hI : ISch w0 u0 ∧ IDen d w0 u0) (hkt : kdA t = 6) (a1 : AMod w0 t N ρ c Lc) (a2 : VCs w0 N ρ c) (b1 : BMod u0 M n ρ' c') (b2 : VCs u0 n ρ' c') (hn : n ≤ 48) (hs : ∀ r k, AM N ρ c r k ↔ AM n ρ' c' r k) : ∀ (j k x : Nat) (w u : World), k + j = d → x ≤ k → Fr3 w0 w → VV (w 104) → FrQ u0 u → VB u →
    ∃ w' u' y, f_Dm_brokenIn_4 w t (x : Int) (k : Int) = some (w', y) ∧ f_Re_brokenIn_5 u (M : Int) (x : Int) ((12 + k : Nat) : Int) = some (u', y) ∧ Fr3 w0 w' ∧ VV (w' 104) ∧ FrQ u0 u' ∧ VB u' := by
  have ht6 := kd6 hkt
  intro j
  induction j with
  | zero =>
    intro k x w u hk hx hF hV hG hVB
    have hJ : ISch w u ∧ IDen d w u := ⟨ISch_c (fun c a b => hF c (by omega)) (fun c a b => hG.cell (by omega) (by omega)) hI.1, IDen_c (fun c _ _ _ _ => hF c (by omega)) (fun c _ _ _ => hG.cell (by omega) (by omega)) (hG 1 15 (by decide) (by decide) (by decide) (fun z => by omega)) hI.2⟩
    have hd := hJ.2
    have a1' : AMod w t N ρ c Lc := AMod_congr (fun c _ _ => hF c (by omega)) (fun c _ _ => hF c (by omega)) a1
    have b1' : BMod u M n ρ' c' := BMod_congr (fun c hc => hG.cell (by omega) (by omega)) b1
    obtain ⟨y, y1, y2⟩ := keys_both hJ.1 a1' (VCs_3 (hF 3 (by omega)) a2) b1' (VCs_3 (hG.cell (by omega) (by omega)) b2) hs 10 0 x (by omega) (by have := hd.2.2.1; omega)
    refine ⟨w, u, y, ?_, ?_, hF, hV, hG, hVB⟩
    · unfold f_Dm_brokenIn_4
      refine lp_out ?_
      show f_Dm_brokenIn_4B w t (x : Int) (k : Int) = _
      have y1 : f_Dm_brokenIn_61 w t (x : Int) 0 = some (w, y) := y1
      unfold f_Dm_brokenIn_4B
      rw [hd.1, if_pos (by omega), y1, bnd_s]
    · unfold f_Re_brokenIn_5
      refine lp_out ?_
      show f_Re_brokenIn_5B u (M : Int) (x : Int) ((12 + k : Nat) : Int) = _
      have y2 : f_Re_brokenIn_51 u (M : Int) (x : Int) 0 = some (u, y) := y2
      have hd3 := hd.2.2.1
      unfold f_Re_brokenIn_5B
      rw [hd.2.1, wr_of (x := 12 + (d : Int)) ⟨by omega, by omega⟩, if_pos (by omega), y2, bnd_s]
  | succ j ih =>
    intro k x w u hk hx hF hV hG hVB
    have hJ : ISch w u ∧ IDen d w u := ⟨ISch_c (fun c a b => hF c (by omega)) (fun c a b => hG.cell (by omega) (by omega)) hI.1, IDen_c (fun c _ _ _ _ => hF c (by omega)) (fun c _ _ _ => hG.cell (by omega) (by omega)) (hG 1 15 (by decide) (by decide) (by decide) (fun z => by omega)) hI.2⟩
    obtain ⟨d1, d2, d3, d4, d5⟩ := hJ.2
    have hk6 : k < 6 := by omega
    obtain ⟨e1, e2, e3, e4, e5⟩ := d5 k (by omega)
    have a1' : AMod w t N ρ c Lc := AMod_congr (fun c _ _ => hF c (by omega)) (fun c _ _ => hF c (by omega)) a1
    have b1' : BMod u M n ρ' c' := BMod_congr (fun c hc => hG.cell (by omega) (by omega)) b1
    have hkd : kdA (70 + 4 * k) = 1 := by
      have : ∀ k, k < 6 → kdA (70 + 4 * k) = 1 := by decide +kernel
      exact this k hk6
    obtain ⟨w1, v, p1, p2, p3, p4⟩ := walkA_ex hkd hkt hJ.1.1 a1' (VCs_3 (hF 3 (by omega)) a2) hV e1.2 e4 e5
    obtain ⟨u1, v', q1, q2, q3, q4⟩ := walkB_ex e2 (e3.safeL.mp e4) b1' hn (VCs_3 (hG.cell (by omega) (by omega)) b2) hVB
    have hvv : v' = v := by
      have hex : (∃ σ, Sat (AM N ρ c) (RB w (70 + 4 * k)) σ) ↔ ∃ σ, Sat (AM n ρ' c') (RBB u (12 + k)) σ := exists_congr fun σ => sat_T e3 hs
      rcases p4 with ⟨z1, z2⟩ | ⟨z1, z2⟩
      · rcases q4 with ⟨y1, y2⟩ | ⟨y1, y2⟩
        · omega
        · exact absurd (hex.mp z2) y2
      · rcases q4 with ⟨y1, y2⟩ | ⟨y1, y2⟩
        · exact absurd (hex.mpr y2) z2
        · omega
    have hF' : Fr3 w0 w1 := fun c hc => (p3 c hc).trans (hF c hc)
    have hG' : FrQ u0 u1 := hG.trans q2
    have hden : f_Pr_denial w (k : Int) = some (70 + 4 * k) := by
      unfold f_Pr_denial f_Pr_denial_26
      rw [if_neg (by omega), if_neg (by omega), gd_t ⟨by omega, by omega⟩, Int.toNat_natCast, d4 k hk6, Int.toNat_natCast, if_neg (by omega)]
    have hbA : f_Dm_brokenIn_4B w t (x : Int) (k : Int) = if v = 0 then (f_Dm_brokenIn_53 w1 t (x : Int) (k : Int)) else (bl (wr ((x : Int) + 1)) fun n18 => f_Dm_brokenIn_53 w1 t n18 (k : Int)) := by
      unfold f_Dm_brokenIn_4B
      rw [d1, if_neg (by omega), hden, bnd_s, gd_t hkd, e1.1, begin_n, bnd_s, p1, bnd_s]
    have e16 : bgB u 16 (12 + k) = ((RBB u (12 + k)).ln : Int) := by rw [bgB_fr (by decide) (by decide)]; exact e2.2.2.1
    have hbB : f_Re_brokenIn_5B u (M : Int) (x : Int) ((12 + k : Nat) : Int) = if v = 0 then (f_Re_brokenIn_41 u1 (M : Int) ((12 + k : Nat) : Int) (x : Int) 0) else (f_Re_brokenIn_41 u1 (M : Int) ((12 + k : Nat) : Int) (x : Int) 1) := by
      unfold f_Re_brokenIn_5B
      rw [d2, wr_of (x := 12 + (d : Int)) ⟨by omega, by omega⟩, if_neg (by omega), beginB_n, bnd_s, gd_t ⟨by omega, by omega⟩, Int.toNat_natCast, e16, q1, bnd_s, hvv]
    have e53 : ∀ z : Int, f_Dm_brokenIn_53 w1 t z (k : Int) = some (Sum.inl (w1, z, ((k + 1 : Nat) : Int))) := fun z => by
      unfold f_Dm_brokenIn_53
      rw [bl_s, wr_of (x := (k : Int) + 1) ⟨by omega, by omega⟩]
      rfl
    have e41 : ∀ i : Nat, i ≤ 1 → f_Re_brokenIn_41 u1 (M : Int) ((12 + k : Nat) : Int) (x : Int) (i : Int) = some (Sum.inl (u1, ((x + i : Nat) : Int), ((12 + (k + 1) : Nat) : Int))) := fun i hi => by
      unfold f_Re_brokenIn_41
      rw [bl_s, bl_s, wr_of (x := ((12 + k : Nat) : Int) + 1) ⟨by omega, by omega⟩, wr_of (x := (x : Int) + (i : Int)) ⟨by omega, by omega⟩]
      rfl
    have e410 : f_Re_brokenIn_41 u1 (M : Int) ((12 + k : Nat) : Int) (x : Int) 0 = some (Sum.inl (u1, (x : Int), ((12 + (k + 1) : Nat) : Int))) := e41 0 (by omega)
    have e411 : f_Re_brokenIn_41 u1 (M : Int) ((12 + k : Nat) : Int) (x : Int) 1 = some (Sum.inl (u1, ((x + 1 : Nat) : Int), ((12 + (k + 1) : Nat) : Int))) := e41 1 (by omega)
    have go : ∀ x' : Nat, x' ≤ k + 1 → f_Dm_brokenIn_4B w t (x : Int) (k : Int) = some (Sum.inl (w1, (x' : Int), ((k + 1 : Nat) : Int))) → f_Re_brokenIn_5B u (M : Int) (x : Int) ((12 + k : Nat) : Int) = some (Sum.inl (u1, (x' : Int), ((12 + (k + 1) : Nat) : Int))) → ∃ w' u' y, f_Dm_brokenIn_4 w t (x : Int) (k : Int) = some (w', y) ∧ f_Re_brokenIn_5 u (M : Int) (x : Int) ((12 + k : Nat) : Int) = some (u', y) ∧ Fr3 w0 w' ∧ VV (w' 104) ∧ FrQ u0 u' ∧ VB u' := fun x' hx' h1 h2 => by
      obtain ⟨w', u', y, y1, y2, y3⟩ := ih (k + 1) x' w1 u1 (by omega) hx' hF' p2 hG' q3
      refine ⟨w', u', y, ?_, ?_, y3⟩
      · unfold f_Dm_brokenIn_4 at y1 ⊢
        rw [lp_step (F := fun z : (World × Int × Int) => f_Dm_brokenIn_4B z.1 t z.2.1 z.2.2) h1]
        exact y1
      · exact bro5 h2 y2
    by_cases hv : v = 0
    · exact go x (by omega) (by rw [hbA, if_pos hv, e53]) (by rw [hbB, if_pos hv, e410])
    · refine go (x + 1) (by omega) ?_ (by rw [hbB, if_neg hv, e411])
      rw [hbA, if_neg hv, bl_s, wr_of (x := (x : Int) + 1) ⟨by omega, by omega⟩, e53]
      rfl
theorem bro_cross {d t M N n : Nat} {w0 u0 : World} {ρ c ρ' c' : Nat → Nat} {Lc : Nat → List Nat} (hI : ISch w0 u0 ∧ IDen d w0 u0) (hV : VV (w0 104)) (hVB : VB u0) (hkt : kdA t = 6) (a1 : AMod w0 t N ρ c Lc) (a2 : VCs w0 N ρ c) (b1 : BMod u0 M n ρ' c') (b2 : VCs u0 n ρ' c') (hn : n ≤ 48) (hs : ∀ r k, AM N ρ c r k ↔ AM n ρ' c' r k) :
    ∃ w' u' y, f_Dm_brokenIn w0 t = some (w', y) ∧ f_Re_brokenIn u0 (M : Int) = some (u', y) := by
  obtain ⟨w', u', y, y1, y2, -⟩ := broken_loopG hI hkt a1 a2 b1 b2 hn hs d 0 0 w0 u0 (by omega) (by omega) (fun _ _ => rfl) hV FrQ.refl hVB
  exact ⟨w', u', y, y1, y2⟩
/-- a mask of facts that stand -/
def Msk (nF : Nat) (w : World) (x : Int) : Prop := 0 < x ∧ ishr x (nF : Int) = 0 ∧ ∀ j : Nat, j < 24 → iand (ishr x (j : Int)) 1 = 1 → j < nF ∧ w 13 j = 0
/-- without the facts of the mask nothing is broken -/
def Mnd (nF m now : Nat) (L : Nat → Nat) (wA : World) (x : Int) : Prop := ∃ (w1 w2 : World) (N : Nat) (ρ c : Nat → Nat) (Lc : Nat → List Nat), (∀ c, c < 98 → w1 c = wA c) ∧ VV (w1 104) ∧ AMod w1 98 N ρ c Lc ∧ VCs w1 N ρ c ∧ Least (SA wA) (lvf L) (FFA nF wA (now : Int) x) (RrA m wA) (AM N ρ c) ∧ f_Dm_brokenIn w1 98 = some (w2, 0)
theorem Mnd_c {nF m now : Nat} {L : Nat → Nat} {w wA : World} {x : Int} (hm : m ≤ 12) (h : ∀ c, c < 98 → w c = wA c) (hM : Mnd nF m now L w x) : Mnd nF m now L wA x := by
  obtain ⟨w1, w2, N, ρ, c, Lc, a1, a2, a3, a4, a5, a6⟩ := hM
  rw [SA_c5 (w' := w) (w := wA) (fun c _ _ => h c (by omega)), FFA_congr h, RrA_c hm h] at a5
  exact ⟨w1, w2, N, ρ, c, Lc, fun c hc => (a1 c hc).trans (h c hc), a2, a3, a4, a5, a6⟩
theorem mendsA {nF m d now top : Nat} {L g : Nat → Nat} {w u : World} {mask : Int} (hI : Inv nF m d now top L g w u) : ∃ w' v, f_Dm_mends w mask = some (w', v) ∧ QAr w w' ∧ (v ≠ 0 → Mnd nF m now L w mask) := by
  obtain ⟨w1, u1, tv, N, ρ, c, Lc, n, ρ', c', p1, p2, p3, p4, p5, p6, p7, p8, p9⟩ := trial_both (hour := (now : Int)) (wo := mask) (x4 := 0) hI.low.S hI.2.2.2.2.2.2.2.2.2.1 hI.2.2.2.2.2.2.2.2.2.2
  obtain ⟨w1', N', ρ1, c1, Lc1, q1, q2, q3, q4, q5⟩ := trialA (hour := (now : Int)) (wo := mask) (x4 := 0) hI.low.S hI.2.2.2.2.2.2.2.2.2.1
  have e1 : w1' = w1 := (some_inj (q1.symm.trans p1)).symm
  subst e1
  have hJ := Inv_q p3 p4.1 hI
  have n12 : w 1 12 = (now : Int) := hI.2.2.2.2.2.1.1
  rcases p9 with ⟨z1, z2, hn, z3⟩ | ⟨z1, z2⟩
  · obtain ⟨w2, u2, y, y1, y2, y3, y4, y5⟩ := broken_both hJ (by decide +kernel) p5 p6 p7 p8 hn z3
    have hA : f_Dm_mends w mask = if y = 0 then some (w2, 1) else some (w2, 0) := by
      unfold f_Dm_mends
      rw [n12, p1, bnd_s, if_pos z2, y1, bnd_s]
    by_cases hy : y = 0
    · rw [if_pos hy] at hA
      refine ⟨w2, 1, hA, p3.trans y3, fun _ => ⟨w1', w2, N', ρ1, c1, Lc1, fun c hc => p3.1 c (Or.inl hc), p3.2, q3, q4, ?_, by rw [y1, hy]⟩⟩
      rcases q5 with ⟨-, z⟩ | ⟨z, -⟩
      · exact z
      · omega
    · rw [if_neg hy] at hA
      exact ⟨w2, 0, hA, p3.trans y3, fun z => absurd rfl z⟩
  · refine ⟨w1', 0, ?_, p3, fun z => absurd rfl z⟩
    unfold f_Dm_mends
    rw [n12, p1, bnd_s, if_neg (by omega)]
/-- what a repair is, when it is one -/
def Rpr (nF m now : Nat) (L : Nat → Nat) (wA : World) (x : Int) : Prop := Msk nF wA x ∧ Mnd nF m now L wA x
theorem holdsA {nF m d now top f : Nat} {L g : Nat → Nat} {wA wB w : World} (hI : Inv nF m d now top L g wA wB) (hA : QAr wA w) (hf : f < nF) : ∃ v, f_Fa_holdsIn w (f : Int) (w 1 12) = some v ∧ (v ≠ 0 → wA 13 f = 0) := by
  obtain ⟨v, v1, v2, v3⟩ := holdsIn_n (w := w) (hour := w 1 12) (f := f) (by rw [hA.1 7 (by omega)]; exact hI.2.1.1.1) hI.2.1.1.2.1 hf
  refine ⟨v, v1, fun hv => ?_⟩
  rw [← hA.1 13 (by omega)]
  exact (v3.mp (by omega)).1
theorem inner_repA {nF m d now top k : Nat} {L g : Nat → Nat} {wA wB : World} (hI : Inv nF m d now top L g wA wB) (hk : k < nF) : ∀ (j i : Nat) (w : World), i + j = k → QAr wA w → ∃ w', QAr wA w' ∧ (f_Dm_repair_76 w (k : Int) (i : Int) = some (Sum.inl (w', ((k + 1 : Nat) : Int))) ∨ ∃ x : Int, f_Dm_repair_76 w (k : Int) (i : Int) = some (Sum.inr (w', x)) ∧ Rpr nF m now L wA x) := by
  have h24 : nF ≤ 24 := hI.2.1.1.2.1
  have hm : m ≤ 12 := hI.2.2.1.1.2.2.1
  have e139 : ∀ w : World, f_Dm_repair_139 w (k : Int) = some (Sum.inl (w, ((k + 1 : Nat) : Int))) := fun w => by
    unfold f_Dm_repair_139
    rw [bl_s, wr_of (x := (k : Int) + 1) ⟨by omega, by omega⟩]
    rfl
  intro j
  induction j with
  | zero =>
    intro i w hi hA
    have e : i = k := by omega
    subst e
    refine ⟨w, hA, Or.inl ?_⟩
    unfold f_Dm_repair_76
    refine lp_out ?_
    show f_Dm_repair_76B w (i : Int) (i : Int) = _
    unfold f_Dm_repair_76B
    rw [if_pos (Int.le_refl _), e139, bnd_s]
  | succ j ih =>
    intro i w hi hA
    have hJ := Inv_q hA (QBr.refl hI.2.2.2.2.2.2.2.2.2.2) hI
    obtain ⟨v, v1, v3⟩ := holdsA hI hA hk
    by_cases hv : v = 0
    · refine ⟨w, hA, Or.inl ?_⟩
      unfold f_Dm_repair_76
      refine lp_out ?_
      show f_Dm_repair_76B w (k : Int) (i : Int) = _
      unfold f_Dm_repair_76B
      rw [if_neg (by omega), v1, bnd_s, if_pos hv, e139, bnd_s]
    · have go : ∀ w1 : World, QAr wA w1 → f_Dm_repair_76B w (k : Int) (i : Int) = some (Sum.inl (w1, ((i + 1 : Nat) : Int))) → ∃ w', QAr wA w' ∧ (f_Dm_repair_76 w (k : Int) (i : Int) = some (Sum.inl (w', ((k + 1 : Nat) : Int))) ∨ ∃ x : Int, f_Dm_repair_76 w (k : Int) (i : Int) = some (Sum.inr (w', x)) ∧ Rpr nF m now L wA x) := fun w1 h1 s1 => by
        have eA : f_Dm_repair_76 w (k : Int) (i : Int) = f_Dm_repair_76 w1 (k : Int) ((i + 1 : Nat) : Int) := by
          unfold f_Dm_repair_76
          exact lp_step (F := fun z : (World × Int) => f_Dm_repair_76B z.1 (k : Int) z.2) (s := (w, (i : Int))) s1
        rw [eA]
        exact ih (i + 1) w1 (by omega) h1
      have e133 : ∀ w : World, f_Dm_repair_133 w (k : Int) (i : Int) = some (Sum.inl (w, ((i + 1 : Nat) : Int))) := fun w => by
        unfold f_Dm_repair_133
        rw [bl_s, wr_of (x := (i : Int) + 1) ⟨by omega, by omega⟩]
        rfl
      obtain ⟨t, t1, t3⟩ := holdsA hI hA (f := i) (by omega)
      by_cases ht : t = 0
      · refine go w hA ?_
        unfold f_Dm_repair_76B
        rw [if_neg (by omega), v1, bnd_s, if_neg hv, t1, bnd_s, if_pos ht, e133]
      · obtain ⟨w1, y, y1, y3, y4⟩ := mendsA (mask := ior (ishl 1 (k : Int)) (ishl 1 (i : Int))) hJ
        have hbA : f_Dm_repair_76B w (k : Int) (i : Int) = if y = 0 then some (Sum.inl (w1, ((i + 1 : Nat) : Int))) else some (Sum.inr (Sum.inr (w1, ior (ishl 1 (k : Int)) (ishl 1 (i : Int))))) := by
          unfold f_Dm_repair_76B
          rw [if_neg (by omega), v1, bnd_s, if_neg hv, t1, bnd_s, if_neg ht, y1, bnd_s, e133]
        by_cases hy : y = 0
        · exact go w1 (hA.trans y3) (by rw [hbA, if_pos hy])
        · rw [if_neg hy] at hbA
          refine ⟨w1, hA.trans y3, Or.inr ⟨ior (ishl 1 (k : Int)) (ishl 1 (i : Int)), ?_, ?_, Mnd_c hm (fun c hc => hA.1 c (Or.inl hc)) (y4 hy)⟩⟩
          · unfold f_Dm_repair_76
            exact lp_out (F := fun z : (World × Int) => f_Dm_repair_76B z.1 (k : Int) z.2) (s := (w, (i : Int))) hbA
          · have h2 := msk2n k (by omega) i (by omega) nF (by omega) hk
            refine ⟨h2.1, h2.2, fun q hq hb => ?_⟩
            rcases msk2 k (by omega) i (by omega) q hq hb with e | e
            · subst e; exact ⟨hk, v3 hv⟩
            · subst e; exact ⟨by omega, t3 ht⟩
theorem pairs_repA {nF m d now top : Nat} {L g : Nat → Nat} {wA wB : World} (hI : Inv nF m d now top L g wA wB) : ∀ (j k : Nat) (w : World), k + j = nF → QAr wA w → ∃ w' y, f_Dm_repair_63 w (k : Int) = some (w', y) ∧ QAr wA w' ∧ (y = -1 ∨ Rpr nF m now L wA y) := by
  intro j
  induction j with
  | zero =>
    intro k w hk hA
    refine ⟨w, -1, ?_, hA, Or.inl rfl⟩
    unfold f_Dm_repair_63
    refine lp_out ?_
    show f_Dm_repair_63B w (k : Int) = _
    unfold f_Dm_repair_63B
    rw [hA.1 7 (by omega), hI.2.1.1.1, if_pos (by omega)]
  | succ j ih =>
    intro k w hk hA
    have bA : f_Dm_repair_63B w (k : Int) = f_Dm_repair_76 w (k : Int) 0 := by
      unfold f_Dm_repair_63B
      rw [hA.1 7 (by omega), hI.2.1.1.1, if_neg (by omega)]
    obtain ⟨w1, h1, h3⟩ := inner_repA hI (k := k) (by omega) k 0 w (by omega) hA
    rcases h3 with s1 | ⟨x, s1, s2⟩
    · have s1 : f_Dm_repair_76 w (k : Int) 0 = _ := s1
      obtain ⟨w', y, y1, y3⟩ := ih (k + 1) w1 (by omega) h1
      refine ⟨w', y, ?_, y3⟩
      unfold f_Dm_repair_63 at y1 ⊢
      rw [lp_step (F := fun z : (World × Int) => f_Dm_repair_63B z.1 z.2) (s := (w, (k : Int))) (bA.trans s1)]
      exact y1
    · have s1 : f_Dm_repair_76 w (k : Int) 0 = _ := s1
      refine ⟨w1, x, ?_, h1, Or.inr s2⟩
      unfold f_Dm_repair_63
      exact lp_out (F := fun z : (World × Int) => f_Dm_repair_63B z.1 z.2) (s := (w, (k : Int))) (bA.trans s1)
theorem pairs_allA {nF m d now top : Nat} {L g : Nat → Nat} {wA wB : World} (hI : Inv nF m d now top L g wA wB) {w : World} (hA : QAr wA w) : ∃ w' y, f_Dm_repair_63 w 1 = some (w', y) ∧ QAr wA w' ∧ (y = -1 ∨ Rpr nF m now L wA y) := by
  by_cases q : nF = 0
  · refine ⟨w, -1, ?_, hA, Or.inl rfl⟩
    unfold f_Dm_repair_63
    refine lp_out ?_
    show f_Dm_repair_63B w 1 = _
    unfold f_Dm_repair_63B
    rw [hA.1 7 (by omega), hI.2.1.1.1, if_pos (by omega)]
  · exact pairs_repA hI (nF - 1) 1 w (by omega) hA
theorem one_repA {nF m d now top : Nat} {L g : Nat → Nat} {wA wB : World} (hI : Inv nF m d now top L g wA wB) : ∀ (j k : Nat) (w : World), k + j = nF → QAr wA w → ∃ w' y, f_Dm_repair_15 w (k : Int) = some (w', y) ∧ QAr wA w' ∧ (y = -1 ∨ Rpr nF m now L wA y) := by
  have h24 : nF ≤ 24 := hI.2.1.1.2.1
  have hm : m ≤ 12 := hI.2.2.1.1.2.2.1
  intro j
  induction j with
  | zero =>
    intro k w hk hA
    obtain ⟨w', y, y1, y3⟩ := pairs_allA hI hA
    refine ⟨w', y, ?_, y3⟩
    unfold f_Dm_repair_15
    refine lp_out ?_
    show f_Dm_repair_15B w (k : Int) = _
    unfold f_Dm_repair_15B
    rw [hA.1 7 (by omega), hI.2.1.1.1, if_pos (by omega), y1, bnd_s]
  | succ j ih =>
    intro k w hk hA
    have hJ := Inv_q hA (QBr.refl hI.2.2.2.2.2.2.2.2.2.2) hI
    have n7 : w 7 0 = (nF : Int) := by rw [hA.1 7 (by omega)]; exact hI.2.1.1.1
    have e1 : ∀ w : World, f_Dm_repair_55 w (k : Int) = some (Sum.inl (w, ((k + 1 : Nat) : Int))) := fun w => by
      unfold f_Dm_repair_55
      rw [bl_s, wr_of (x := (k : Int) + 1) ⟨by omega, by omega⟩]
      rfl
    have go : ∀ w1 : World, QAr wA w1 → f_Dm_repair_15B w (k : Int) = some (Sum.inl (w1, ((k + 1 : Nat) : Int))) → ∃ w' y, f_Dm_repair_15 w (k : Int) = some (w', y) ∧ QAr wA w' ∧ (y = -1 ∨ Rpr nF m now L wA y) := fun w1 h1 s1 => by
      obtain ⟨w', y, y1, y3⟩ := ih (k + 1) w1 (by omega) h1
      refine ⟨w', y, ?_, y3⟩
      unfold f_Dm_repair_15 at y1 ⊢
      rw [lp_step (F := fun z : (World × Int) => f_Dm_repair_15B z.1 z.2) (s := (w, (k : Int))) s1]
      exact y1
    obtain ⟨v, v1, v3⟩ := holdsA hI hA (f := k) (by omega)
    by_cases hv : v = 0
    · refine go w hA ?_
      unfold f_Dm_repair_15B
      rw [n7, if_neg (by omega), v1, bnd_s, if_pos hv, e1]
    · obtain ⟨w1, y, y1, y3, y4⟩ := mendsA (mask := ishl 1 (k : Int)) hJ
      have hbA : f_Dm_repair_15B w (k : Int) = if y = 0 then some (Sum.inl (w1, ((k + 1 : Nat) : Int))) else some (Sum.inr (w1, ishl 1 (k : Int))) := by
        unfold f_Dm_repair_15B
        rw [n7, if_neg (by omega), v1, bnd_s, if_neg hv, y1, bnd_s, e1]
      by_cases hy : y = 0
      · exact go w1 (hA.trans y3) (by rw [hbA, if_pos hy])
      · rw [if_neg hy] at hbA
        refine ⟨w1, ishl 1 (k : Int), ?_, hA.trans y3, Or.inr ⟨?_, Mnd_c hm (fun c hc => hA.1 c (Or.inl hc)) (y4 hy)⟩⟩
        · unfold f_Dm_repair_15
          exact lp_out (F := fun z : (World × Int) => f_Dm_repair_15B z.1 z.2) (s := (w, (k : Int))) hbA
        · have h2 := msk1n k (by omega) nF (by omega) (by omega)
          refine ⟨h2.1, h2.2, fun q hq hb => ?_⟩
          have e := msk1 k (by omega) q hq hb
          subst e
          exact ⟨by omega, v3 hv⟩
/-- broken and repair together -/
theorem bro_rep {nF m d now top : Nat} {L g : Nat → Nat} {wA wB : World} (hI : Inv nF m d now top L g wA wB) : ∃ w1 w2 y x, f_Dm_broken wA = some (w1, y) ∧ f_Dm_repair wA = some (w2, x) ∧ QAr wA w1 ∧ QAr wA w2 ∧ ((y = 0 ∧ x = 0) ∨ (y ≠ 0 ∧ x = -1) ∨ (y ≠ 0 ∧ Rpr nF m now L wA x)) := by
  obtain ⟨i1, i2, i3, i4, i5, i6, i7, i8, i9, i10, i11⟩ := id hI
  obtain ⟨⟨N, ρ, c, Lc, a1, a2, a3, a4, -⟩, n, ρ', c', b1, b2, b3, b4⟩ := (i9 now i6.2.2).A
  have hs := least_both hI.low.S a4 b4
  obtain ⟨w1, u1, y, y1, y2, y3, y4, -⟩ := broken_both hI (kd_ref i8 (by omega)) a1 a2 b1 b2 b3 hs
  have hB : f_Dm_broken wA = some (w1, y) := by
    unfold f_Dm_broken
    rw [present_n i8 i6.2.2 i6.1, bnd_s, gd_t (kd_ref i8 (by omega)), y1, bnd_s]
  have hA : f_Dm_repair wA = if y = 0 then some (w1, 0) else f_Dm_repair_15 w1 0 := by
    unfold f_Dm_repair
    rw [present_n i8 i6.2.2 i6.1, bnd_s, gd_t (kd_ref i8 (by omega)), y1, bnd_s]
  by_cases hy : y = 0
  · exact ⟨w1, w1, y, 0, hB, by rw [hA, if_pos hy], y3, y3, Or.inl ⟨hy, rfl⟩⟩
  · obtain ⟨w2, x, x1, x2, x3⟩ := one_repA hI nF 0 w1 (by omega) y3
    refine ⟨w1, w2, y, x, hB, by rw [hA, if_neg hy]; exact x1, y3, x2, Or.inr ?_⟩
    rcases x3 with x3 | x3
    · exact Or.inl ⟨hy, x3⟩
    · exact Or.inr ⟨hy, x3⟩
