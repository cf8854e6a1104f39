/-! THE LAW over one picture: told -/
theorem cheap_code {w : World} {r x y z : Int} {o : World × Nat × Int} (hA : f_Sc_isDeclared w r = some 1) (h : f_Dm_cheapest w r x y z = some o) : o.2.1 = 0 := by
  unfold f_Dm_cheapest at h
  rw [hA, bnd_s, if_neg z10] at h
  obtain ⟨v7, -, h⟩ := bnd_some h
  obtain ⟨-, h⟩ := gd_some h
  obtain ⟨v11, -, h⟩ := bnd_some h
  by_cases q : v11 = 0
  · rw [if_pos q] at h
    rw [some_inj h]
  · rw [if_neg q] at h
    obtain ⟨v16, -, h⟩ := bnd_some h
    obtain ⟨v19, -, h⟩ := bnd_some h
    obtain ⟨v22, -, h⟩ := bnd_some h
    obtain ⟨-, h⟩ := gd_some h
    obtain ⟨v26, -, h⟩ := bnd_some h
    obtain ⟨v29, -, h⟩ := bnd_some h
    rw [some_inj h]
section QV
variable {wA wB : World} {r : Nat} {x y z : Int}
theorem hold_eq {u v : Int} (h : f_Dm_holds wA (r : Int) x y z = some (wA, 0, u)) (h' : f_Dm_holds wA (r : Int) x y z = some (wA, 0, v)) : v = u :=
  congrArg (fun q : World × Nat × Int => q.2.2) (some_inj (h.symm.trans h'))
theorem v_cheap (h0 : II wA wB) (hd : DecB wB) (hr : r < 6) (rx : R32 x) (ry : R32 y) (rz : R32 z) : ∃ C : Int, ActQ (fun q m => f_L_cheapest q m (r : Int) x y z) wB wB C ∧ ((f_Dm_holds wA (r : Int) x y z = some (wA, 0, 1) ∧ 0 < C ∧ C ≤ 1000000) ∨ (f_Dm_holds wA (r : Int) x y z = some (wA, 0, 0) ∧ C = -1)) := by
  obtain ⟨oA, oB, h1, -, -, -, -, -, h2⟩ := sc_cheapest h0 (r : Int) x y z (Rnn (by omega)) rx ry rz
  have hdec : f_Sc_isDeclared wA (r : Int) = some 1 := isdecl h0 (by omega) (hd.pos hr)
  have e0 := cheap_code hdec h1
  obtain ⟨w', e, v⟩ := oA
  have e0 : e = 0 := e0
  subst e0
  exact ⟨v, av_cheapest h0 (Rnn (by omega)) rx ry rz h1, h2 rfl⟩
theorem v_need (h0 : II wA wB) (hd : DecB wB) (hr : r < 6) (rx : R32 x) (ry : R32 y) (rz : R32 z) : ∃ b : Int, ActQ (fun q m => f_L_needed q m (r : Int) x y z) wB wB b ∧ ishr b (wB 1 7) = 0 ∧ (f_Dm_holds wA (r : Int) x y z = some (wA, 0, 0) → b = 0) := by
  obtain ⟨w', b, nF, h1, h2, h3, h4, h5⟩ := need_rng (x := x) (y := y) (z := z) h0 (show r < 10 by omega) (hd.pos hr)
  refine ⟨(b : Int), av_needed h0 (Rnn (by omega)) rx ry rz h1, ?_, fun h => by have := h5 h; omega⟩
  have hp : 2 ^ nF ≤ 2 ^ 24 := Nat.pow_le_pow_right (by decide) h3
  have hp : 2 ^ nF ≤ 16777216 := hp
  rw [h2, ishr_n (a := b) (k := nF) (by omega) (by omega), Nat.div_eq_of_lt h4]
  rfl
theorem v_ways (h0 : II wA wB) (hd : DecB wB) (hr : r < 6) (rx : R32 x) (ry : R32 y) (rz : R32 z) : ∃ W : Int, ActQ (fun q m => f_L_ways q m (r : Int) x y z) wB wB W ∧ ((f_Dm_holds wA (r : Int) x y z = some (wA, 0, 1) ∧ 1 ≤ W) ∨ (f_Dm_holds wA (r : Int) x y z = some (wA, 0, 0) ∧ W = 0)) := by
  rcases ways_rng (x := x) (y := y) (z := z) h0 (show r < 10 by omega) (hd.pos hr) with ⟨h1, v, w', h2, h3⟩ | ⟨h1, h2⟩
  · exact ⟨v, av_ways h0 (Rnn (by omega)) rx ry rz h2, Or.inl ⟨h1, h3⟩⟩
  · exact ⟨0, av_ways h0 (Rnn (by omega)) rx ry rz h2, Or.inr ⟨h1, rfl⟩⟩
theorem v_hour (h0 : II wA wB) (hd : DecB wB) (hr : r < 6) (rx : R32 x) (ry : R32 y) (rz : R32 z) {h : Nat} (hh : h < 4) : ∃ u : Int, ActQ (fun q m => f_L_holdsAt q m (r : Int) x y z (h : Int)) wB wB u ∧ ActQ (fun q m => f_L_anew q m (r : Int) x y z (h : Int)) wB wB u ∧ (wB 1 1 = (h : Int) → f_Dm_holds wA (r : Int) x y z = some (wA, 0, u)) := by
  obtain ⟨u, w', h1, h2, h3, -⟩ := hour_anew (x := x) (y := y) (z := z) h0 (show r < 10 by omega) (hd.pos hr) hh
  refine ⟨u, av_holdsAt h0 (Rnn (by omega)) rx ry rz (Rnn (by omega)) h1, av_anew h0 (Rnn (by omega)) rx ry rz (Rnn (by omega)) h2, fun e => h3 ?_⟩
  rw [(num_AB h0).2.2.2.2.1]
  exact e
theorem v_hold (h0 : II wA wB) (hr : r < 6) (rx : R32 x) (ry : R32 y) (rz : R32 z) {v : Int} (h : f_Dm_holds wA (r : Int) x y z = some (wA, 0, v)) : ActQ (fun q m => f_L_holds q m (r : Int) x y z) wB wB v := av_holds h0 (Rnn (by omega)) rx ry rz h
end QV
section TOLD
variable {nn : Nat → Int} {wA wB : World} {T : Nat → List Nat} {x3 r : Nat} {m : Bool}
theorem told_99 (h0 : II wA wB) (hd : DecB wB) (hT : Tup wA T) (hN : NT nn wB) (hr : r < 6) {p t : Nat} {z : ZQ} {x4 C b : Int} (hp : p < (T r).length) (h4 : x4 < ((T r)[p] : Int)) (hC : 0 < C ∧ C ≤ 1000000) (hb : ishr b (wB 1 7) = 0) (ht : t + 3 ≤ 400) (hz : W2 z nn wB) : Eo (fun o => ∃ s, o = Sum.inl s ∧ ∃ (z' : ZQ) (t' : Nat), s = (z', t', ((T r)[p] : Int), 1, ((p + 1 : Nat) : Int)) ∧ t' ≤ t + 3 ∧ W2 z' nn wB) (f_L_told_99 z m t (r : Int) (x3 : Int) x4 (p : Int) ((T r)[p] : Int) ((clm (T r)[p] 0 : Nat) : Int) ((clm (T r)[p] 1 : Nat) : Int) ((clm (T r)[p] 2 : Nat) : Int) C b) := by
  have hl := len_T hT hr
  obtain ⟨-, -, hh⟩ := hT.2.2.2.1 r hr p hp
  have c0 : clm (T r)[p] 0 < 128 := clm_lt
  have c1 : clm (T r)[p] 1 < 128 := clm_lt
  have c2 : clm (T r)[p] 2 < 128 := clm_lt
  have r0 : R32 ((clm (T r)[p] 0 : Nat) : Int) := Rnn (by omega)
  have r1 : R32 ((clm (T r)[p] 1 : Nat) : Int) := Rnn (by omega)
  have r2 : R32 ((clm (T r)[p] 2 : Nat) : Int) := Rnn (by omega)
  obtain ⟨n0, -, -, -, n5⟩ := hN
  obtain ⟨-, -, -, -, rh⟩ := num_rng h0
  obtain ⟨h, hhr⟩ : ∃ h : Nat, wB 1 1 = (h : Int) := ⟨(wB 1 1).toNat, by omega⟩
  obtain ⟨u, -, ua, uh⟩ := v_hour h0 hd hr r0 r1 r2 (h := h) (by omega)
  have u1 : u = 1 := hold_eq hh (uh hhr)
  subst u1
  obtain ⟨W, aW, hW⟩ := v_ways h0 hd hr r0 r1 r2
  have hW1 : 1 ≤ W := by
    rcases hW with ⟨-, z⟩ | ⟨z, -⟩
    · exact z
    · exact absurd (hold_eq hh z) (by decide)
  unfold f_L_told_99
  refine Eo_g ht ?_
  refine Eo_f (by omega) ?_
  refine Eo_bnd (v_hold h0 hr r0 r1 r2 hh) hz (fun z hz => ?_)
  refine Eo_t rfl ?_
  have e5 : z.2.2 5 = (h : Int) := by rw [hz.2.2, n5, hhr]
  dsimp only
  rw [e5]
  refine Eo_bnd ua hz (fun z hz => ?_)
  refine Eo_t rfl ?_
  refine Eo_bnd aW hz (fun z hz => ?_)
  refine Eo_f (by show ¬ W ≤ 0; omega) ?_
  refine Eo_f (by omega) ?_
  refine Eo_f (by omega) ?_
  refine Eo_t (by show ishr b (z.2.2 0) = 0; rw [hz.2.2, n0]; exact hb) ?_
  unfold f_L_told_181
  refine Eo_g (by omega) ?_
  refine Eo_l ?_
  rw [wr_s (a := (p : Int) + 1) (by omega) (by omega)]
  exact Eo_r ⟨_, rfl, z, t + 3, rfl, by omega, hz⟩
theorem told_loop (h0 : II wA wB) (hd : DecB wB) (hT : Tup wA T) (hN : NT nn wB) (hr : r < 6) (hx : x3 < 2147483648) : ∀ (j p t : Nat) (z : ZQ) (c : Int), p + j = (T r).length → t ≤ 7 * p → (∀ (hp : p < (T r).length), c < ((T r)[p] : Int)) → W2 z nn wB → Eo (P1 nn wB) (f_L_told_9 z m t (r : Int) (x3 : Int) c 1 (p : Int)) := by
  have hl := len_T hT hr
  intro j
  induction j with
  | zero =>
    intro p t z c hp ht _ hz
    unfold f_L_told_9
    refine Eo_out ?_
    show Eo _ (f_L_told_9B z m t (r : Int) (x3 : Int) c 1 (p : Int))
    unfold f_L_told_9B
    refine Eo_g (by omega) ?_
    refine Eo_bnd (v_size h0 hT hr) hz (fun z hz => ?_)
    refine Eo_t (by show ((T r).length : Int) ≤ (p : Int); omega) ?_
    refine Eo_g (Or.inr rfl) ?_
    exact Eo_r ⟨_, rfl, hz, rfl⟩
  | succ j ih =>
    intro p t z c hp ht hc hz
    have hpl : p < (T r).length := by omega
    have hk := (hT.2.2.2.1 r hr p hpl).2.1
    obtain ⟨k0, k1, k2⟩ := cols_T hk
    have hh := (hT.2.2.2.1 r hr p hpl).2.2
    have c0 : clm (T r)[p] 0 < 128 := clm_lt
    have c1 : clm (T r)[p] 1 < 128 := clm_lt
    have c2 : clm (T r)[p] 2 < 128 := clm_lt
    obtain ⟨C, aC, hC⟩ := v_cheap (x := ((clm (T r)[p] 0 : Nat) : Int)) (y := ((clm (T r)[p] 1 : Nat) : Int)) (z := ((clm (T r)[p] 2 : Nat) : Int)) h0 hd hr (Rnn (by omega)) (Rnn (by omega)) (Rnn (by omega))
    have hC1 : 0 < C ∧ C ≤ 1000000 := by
      rcases hC with ⟨-, z⟩ | ⟨z, -⟩
      · exact z
      · exact absurd (hold_eq hh z) (by decide)
    obtain ⟨b, aB, hb, -⟩ := v_need (x := ((clm (T r)[p] 0 : Nat) : Int)) (y := ((clm (T r)[p] 1 : Nat) : Int)) (z := ((clm (T r)[p] 2 : Nat) : Int)) h0 hd hr (Rnn (by omega)) (Rnn (by omega)) (Rnn (by omega))
    obtain ⟨r7a, r7b⟩ := (num_rng h0).1
    have hb0 : ishr 0 (wB 1 7) = 0 := by
      obtain ⟨nF, hnF⟩ : ∃ n : Nat, wB 1 7 = (n : Int) := ⟨(wB 1 7).toNat, by omega⟩
      rw [hnF]
      have := ishr_n (a := 0) (k := nF) (by omega) (by omega)
      rw [Nat.zero_div] at this
      exact this
    unfold f_L_told_9
    refine Eo_step (fun s => ∃ (z' : ZQ) (t' : Nat), s = (z', t', ((T r)[p] : Int), 1, ((p + 1 : Nat) : Int)) ∧ t' ≤ 7 * (p + 1) ∧ W2 z' nn wB) ?_ ?_
    · show Eo _ (f_L_told_9B z m t (r : Int) (x3 : Int) c 1 (p : Int))
      unfold f_L_told_9B
      refine Eo_g (by omega) ?_
      refine Eo_bnd (v_size h0 hT hr) hz (fun z hz => ?_)
      refine Eo_f (by show ¬ ((T r).length : Int) ≤ (p : Int); omega) ?_
      refine Eo_f z10 ?_
      refine Eo_bnd (v_at h0 hT hr hpl) hz (fun z hz => ?_)
      dsimp only
      rw [k0, k1, k2]
      refine Eo_l ?_
      refine Eo_l ?_
      refine Eo_l ?_
      refine Eo_bnd aC hz (fun z hz => ?_)
      by_cases q : irem (p : Int) 5 = irem (x3 : Int) 5
      · refine Eo_t q ?_
        refine Eo_bnd aB hz (fun z hz => ?_)
        obtain ⟨o, e, s, rfl, z', t', rfl, ht', hz'⟩ := told_99 (m := m) (x3 := x3) h0 hd hT hN hr hpl (hc hpl) hC1 hb (t := t + 4) (by omega) hz
        exact ⟨_, e, _, rfl, z', t', rfl, by omega, hz'⟩
      · refine Eo_f q ?_
        obtain ⟨o, e, s, rfl, z', t', rfl, ht', hz'⟩ := told_99 (m := m) (x3 := x3) h0 hd hT hN hr hpl (hc hpl) hC1 hb0 (t := t + 3) (by omega) hz
        exact ⟨_, e, _, rfl, z', t', rfl, by omega, hz'⟩
    · rintro s ⟨z', t', rfl, ht', hz'⟩
      refine ih (p + 1) t' z' _ (by omega) ht' (fun hp' => ?_) hz'
      have := List.pairwise_iff_getElem.mp (hT.1 r hr) p (p + 1) hpl hp' (by omega)
      omega
theorem told_law (h0 : II wA wB) (hd : DecB wB) (hT : Tup wA T) (hN : NT nn wB) (hr : r < 6) (hx : x3 < 2147483648) {z : ZQ} (hz : W2 z nn wB) : Eo (P1 nn wB) (f_L_told z m (r : Int) (x3 : Int)) := by
  unfold f_L_told
  exact told_loop h0 hd hT hN hr hx (T r).length 0 0 z (-1) (by omega) (by omega) (fun hp => by omega) hz
end TOLD
