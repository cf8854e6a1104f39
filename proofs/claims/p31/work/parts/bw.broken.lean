/-! BOTH: broken -/
theorem sat_T {M M' : MM} {R R' : RU} {σ : Nat → Nat} (e : EqT R R') (hs : ∀ r k, M r k ↔ M' r k) : Sat M R σ ↔ Sat M' R' σ := by
  have hM : M = M' := funext fun r => funext fun k => propext (hs r k)
  subst hM
  unfold Sat
  rw [e.1]
  refine and_congr Iff.rfl (forall_congr' fun p => forall_congr' fun hp => ?_)
  obtain ⟨x, y, z⟩ := e.2 p hp
  have ht : tc σ (R'.tm p) = tc σ (R.tm p) := tc_congr z
  unfold lit
  rw [x, y, ht, z 0 (by omega), z 1 (by omega), z 2 (by omega)]
theorem bro5 {u u1 : World} {M x x' k k' : Int} {o : World × Int} (h : f_Re_brokenIn_5B u M x k = some (Sum.inl (u1, x', k'))) (h2 : f_Re_brokenIn_5 u1 M x' k' = some o) : f_Re_brokenIn_5 u M x k = some o := by
  unfold f_Re_brokenIn_5 at h2 ⊢
  rw [lp_step (F := fun z : (World × Int × Int) => f_Re_brokenIn_5B z.1 M z.2.1 z.2.2) (s := (u, x, k)) h]
  exact h2
theorem broken_loop {nF m d now top t M N n : Nat} {L g : Nat → Nat} {w0 u0 : World} {ρ c ρ' c' : Nat → Nat} {Lc : Nat → List Nat} (hI : Inv nF m d now top L g w0 u0) (hkt : kdA t = 6) (a1 : AMod w0 t N ρ c Lc) (a2 : VCs w0 N ρ c) (b1 : BMod u0 M n ρ' c') (b2 : VCs u0 n ρ' c') (hn : n ≤ 48) (hs : ∀ r k, AM N ρ c r k ↔ AM n ρ' c' r k) : ∀ (j k x : Nat) (w u : World), k + j = d → x ≤ k → Fr3 w0 w → VV (w 104) → FrQ u0 u → VB u →
    ∃ w' u' y, f_Dm_brokenIn_4 w t (x : Int) (k : Int) = some (w', y) ∧ f_Re_brokenIn_5 u (M : Int) (x : Int) ((12 + k : Nat) : Int) = some (u', y) ∧ Fr3 w0 w' ∧ VV (w' 104) ∧ FrQ u0 u' ∧ VB u' := by
  have ht6 := kd6 hkt
  intro j
  induction j with
  | zero =>
    intro k x w u hk hx hF hV hG hVB
    have hJ := Inv_q (wA' := w) (wB' := u) ⟨fun c hc => hF c (by omega), hV⟩ ((FrQ.toR (M := 4) hG).QB hVB) hI
    have hd := hJ.2.2.2.1
    have a1' : AMod w t N ρ c Lc := AMod_congr (fun c _ _ => hF c (by omega)) (fun c _ _ => hF c (by omega)) a1
    have b1' : BMod u M n ρ' c' := BMod_congr (fun c hc => hG.cell (by omega) (by omega)) b1
    obtain ⟨y, y1, y2⟩ := keys_both hJ.1 a1' (VCs_3 (hF 3 (by omega)) a2) b1' (VCs_3 (hG.cell (by omega) (by omega)) b2) hs 10 0 x (by omega) (by have := hd.2.2.1; omega)
    refine ⟨w, u, y, ?_, ?_, hF, hV, hG, hVB⟩
    · unfold f_Dm_brokenIn_4
      refine lp_out ?_
      show f_Dm_brokenIn_4B w t (x : Int) (k : Int) = _
      have y1 : f_Dm_brokenIn_61 w t (x : Int) 0 = some (w, y) := y1
      unfold f_Dm_brokenIn_4B
      rw [hd.1, if_pos (by omega), y1, bnd_s]
    · unfold f_Re_brokenIn_5
      refine lp_out ?_
      show f_Re_brokenIn_5B u (M : Int) (x : Int) ((12 + k : Nat) : Int) = _
      have y2 : f_Re_brokenIn_51 u (M : Int) (x : Int) 0 = some (u, y) := y2
      have hd3 := hd.2.2.1
      unfold f_Re_brokenIn_5B
      rw [hd.2.1, wr_of (x := 12 + (d : Int)) ⟨by omega, by omega⟩, if_pos (by omega), y2, bnd_s]
  | succ j ih =>
    intro k x w u hk hx hF hV hG hVB
    have hJ := Inv_q (wA' := w) (wB' := u) ⟨fun c hc => hF c (by omega), hV⟩ ((FrQ.toR (M := 4) hG).QB hVB) hI
    obtain ⟨d1, d2, d3, d4, d5⟩ := hJ.2.2.2.1
    have hk6 : k < 6 := by omega
    obtain ⟨e1, e2, e3, e4, e5⟩ := d5 k (by omega)
    have a1' : AMod w t N ρ c Lc := AMod_congr (fun c _ _ => hF c (by omega)) (fun c _ _ => hF c (by omega)) a1
    have b1' : BMod u M n ρ' c' := BMod_congr (fun c hc => hG.cell (by omega) (by omega)) b1
    have hkd : kdA (70 + 4 * k) = 1 := by
      have : ∀ k, k < 6 → kdA (70 + 4 * k) = 1 := by decide +kernel
      exact this k hk6
    obtain ⟨w1, v, p1, p2, p3, p4⟩ := walkA_ex hkd hkt hJ.1.1 a1' (VCs_3 (hF 3 (by omega)) a2) hV e1.2 e4 e5
    obtain ⟨u1, v', q1, q2, q3, q4⟩ := walkB_ex e2 (e3.safeL.mp e4) b1' hn (VCs_3 (hG.cell (by omega) (by omega)) b2) hVB
    have hvv : v' = v := by
      have hex : (∃ σ, Sat (AM N ρ c) (RB w (70 + 4 * k)) σ) ↔ ∃ σ, Sat (AM n ρ' c') (RBB u (12 + k)) σ := exists_congr fun σ => sat_T e3 hs
      rcases p4 with ⟨z1, z2⟩ | ⟨z1, z2⟩
      · rcases q4 with ⟨y1, y2⟩ | ⟨y1, y2⟩
        · omega
        · exact absurd (hex.mp z2) y2
      · rcases q4 with ⟨y1, y2⟩ | ⟨y1, y2⟩
        · exact absurd (hex.mpr y2) z2
        · omega
    have hF' : Fr3 w0 w1 := fun c hc => (p3 c hc).trans (hF c hc)
    have hG' : FrQ u0 u1 := hG.trans q2
    have hden : f_Pr_denial w (k : Int) = some (70 + 4 * k) := by
      unfold f_Pr_denial f_Pr_denial_26
      rw [if_neg (by omega), if_neg (by omega), gd_t ⟨by omega, by omega⟩, Int.toNat_natCast, d4 k hk6, Int.toNat_natCast, if_neg (by omega)]
    have hbA : f_Dm_brokenIn_4B w t (x : Int) (k : Int) = if v = 0 then (f_Dm_brokenIn_53 w1 t (x : Int) (k : Int)) else (bl (wr ((x : Int) + 1)) fun n18 => f_Dm_brokenIn_53 w1 t n18 (k : Int)) := by
      unfold f_Dm_brokenIn_4B
      rw [d1, if_neg (by omega), hden, bnd_s, gd_t hkd, e1.1, begin_n, bnd_s, p1, bnd_s]
    have e16 : bgB u 16 (12 + k) = ((RBB u (12 + k)).ln : Int) := by rw [bgB_fr (by decide) (by decide)]; exact e2.2.2.1
    have hbB : f_Re_brokenIn_5B u (M : Int) (x : Int) ((12 + k : Nat) : Int) = if v = 0 then (f_Re_brokenIn_41 u1 (M : Int) ((12 + k : Nat) : Int) (x : Int) 0) else (f_Re_brokenIn_41 u1 (M : Int) ((12 + k : Nat) : Int) (x : Int) 1) := by
      unfold f_Re_brokenIn_5B
      rw [d2, wr_of (x := 12 + (d : Int)) ⟨by omega, by omega⟩, if_neg (by omega), beginB_n, bnd_s, gd_t ⟨by omega, by omega⟩, Int.toNat_natCast, e16, q1, bnd_s, hvv]
    have e53 : ∀ z : Int, f_Dm_brokenIn_53 w1 t z (k : Int) = some (Sum.inl (w1, z, ((k + 1 : Nat) : Int))) := fun z => by
      unfold f_Dm_brokenIn_53
      rw [bl_s, wr_of (x := (k : Int) + 1) ⟨by omega, by omega⟩]
      rfl
    have e41 : ∀ i : Nat, i ≤ 1 → f_Re_brokenIn_41 u1 (M : Int) ((12 + k : Nat) : Int) (x : Int) (i : Int) = some (Sum.inl (u1, ((x + i : Nat) : Int), ((12 + (k + 1) : Nat) : Int))) := fun i hi => by
      unfold f_Re_brokenIn_41
      rw [bl_s, bl_s, wr_of (x := ((12 + k : Nat) : Int) + 1) ⟨by omega, by omega⟩, wr_of (x := (x : Int) + (i : Int)) ⟨by omega, by omega⟩]
      rfl
    have e410 : f_Re_brokenIn_41 u1 (M : Int) ((12 + k : Nat) : Int) (x : Int) 0 = some (Sum.inl (u1, (x : Int), ((12 + (k + 1) : Nat) : Int))) := e41 0 (by omega)
    have e411 : f_Re_brokenIn_41 u1 (M : Int) ((12 + k : Nat) : Int) (x : Int) 1 = some (Sum.inl (u1, ((x + 1 : Nat) : Int), ((12 + (k + 1) : Nat) : Int))) := e41 1 (by omega)
    have go : ∀ x' : Nat, x' ≤ k + 1 → f_Dm_brokenIn_4B w t (x : Int) (k : Int) = some (Sum.inl (w1, (x' : Int), ((k + 1 : Nat) : Int))) → f_Re_brokenIn_5B u (M : Int) (x : Int) ((12 + k : Nat) : Int) = some (Sum.inl (u1, (x' : Int), ((12 + (k + 1) : Nat) : Int))) → ∃ w' u' y, f_Dm_brokenIn_4 w t (x : Int) (k : Int) = some (w', y) ∧ f_Re_brokenIn_5 u (M : Int) (x : Int) ((12 + k : Nat) : Int) = some (u', y) ∧ Fr3 w0 w' ∧ VV (w' 104) ∧ FrQ u0 u' ∧ VB u' := fun x' hx' h1 h2 => by
      obtain ⟨w', u', y, y1, y2, y3⟩ := ih (k + 1) x' w1 u1 (by omega) hx' hF' p2 hG' q3
      refine ⟨w', u', y, ?_, ?_, y3⟩
      · unfold f_Dm_brokenIn_4 at y1 ⊢
        rw [lp_step (F := fun z : (World × Int × Int) => f_Dm_brokenIn_4B z.1 t z.2.1 z.2.2) h1]
        exact y1
      · exact bro5 h2 y2
    by_cases hv : v = 0
    · exact go x (by omega) (by rw [hbA, if_pos hv, e53]) (by rw [hbB, if_pos hv, e410])
    · refine go (x + 1) (by omega) ?_ (by rw [hbB, if_neg hv, e411])
      rw [hbA, if_neg hv, bl_s, wr_of (x := (x : Int) + 1) ⟨by omega, by omega⟩, e53]
      rfl
theorem broken_both {nF m d now top t M N n : Nat} {L g : Nat → Nat} {w0 u0 : World} {ρ c ρ' c' : Nat → Nat} {Lc : Nat → List Nat} (hI : Inv nF m d now top L g w0 u0) (hkt : kdA t = 6) (a1 : AMod w0 t N ρ c Lc) (a2 : VCs w0 N ρ c) (b1 : BMod u0 M n ρ' c') (b2 : VCs u0 n ρ' c') (hn : n ≤ 48) (hs : ∀ r k, AM N ρ c r k ↔ AM n ρ' c' r k) :
    ∃ w' u' y, f_Dm_brokenIn w0 t = some (w', y) ∧ f_Re_brokenIn u0 (M : Int) = some (u', y) ∧ QAr w0 w' ∧ QBr u0 u' ∧ u' 1 0 = u0 1 0 := by
  obtain ⟨w', u', y, y1, y2, y3, y4, y5, y6⟩ := broken_loop hI hkt a1 a2 b1 b2 hn hs d 0 0 w0 u0 (by omega) (by omega) (fun _ _ => rfl) hI.2.2.2.2.2.2.2.2.2.1 FrQ.refl hI.2.2.2.2.2.2.2.2.2.2
  exact ⟨w', u', y, y1, y2, ⟨fun c hc => y3 c (by omega), y4⟩, (FrQ.toR (M := 4) y5).QB y6, y5 1 0 (by decide) (by decide) (by decide) (fun z => by omega)⟩
theorem st_broken : St_broken II := by
  intro wA wB hII
  obtain ⟨nF, m, d, now, top, L, g, hI⟩ := id hII
  obtain ⟨i1, i2, i3, i4, i5, i6, i7, i8, i9, i10, i11⟩ := id hI
  obtain ⟨⟨N, ρ, c, Lc, a1, a2, a3, a4, -⟩, n, ρ', c', b1, b2, b3, b4⟩ := (i9 now i6.2.2).A
  have hs := least_both hI.low.S a4 b4
  obtain ⟨w', u', y, y1, y2, y3, y4, -⟩ := broken_both hI (kd_ref i8 (by omega)) a1 a2 b1 b2 b3 hs
  refine ⟨(w', y), (up u' 1 0 0, y), ?_, ?_, rfl, nF, m, d, now, top, L, g, Inv_up10 (Inv_q y3 y4 hI)⟩
  · unfold f_Dm_broken
    rw [present_n i8 i6.2.2 i6.1, bnd_s, gd_t (kd_ref i8 (by omega)), y1, bnd_s]
  · unfold f_Re_broken f_Re_fine
    rw [i6.2.1, y2, bnd_s, bl_s, bnd_s]
