/-! BOTH: a fact added -/
def fApp (w : World) (nF : Nat) (r k x5 x6 x7 : Int) : World := up (up (up (up (up (up (up (up w 8 nF r) 9 nF k) 10 nF x5) 11 nF x6) 12 nF x7) 13 nF 0) 7 0 ((nF + 1 : Nat) : Int)) 7 1 (w 7 1 + 1)
theorem append_n {w : World} {nF u : Nat} {r k x5 x6 x7 : Int} (hn : w 7 0 = (nF : Int)) (h24 : nF < 24) (hu : w 7 1 = (u : Int)) (hu2 : u ≤ 24) : f_Fa_append w r k x5 x6 x7 = some (fApp w nF r k x5 x6 x7) := by
  unfold f_Fa_append fApp
  rw [hn, bl_s, if_neg (by omega), if_neg (by omega), gd_t ⟨by omega, by omega⟩, bl_s, gd_t ⟨by omega, by omega⟩, bl_s, gd_t ⟨by omega, by omega⟩, bl_s, gd_t ⟨by omega, by omega⟩, bl_s, gd_t ⟨by omega, by omega⟩, bl_s, gd_t ⟨by omega, by omega⟩, bl_s, Int.toNat_natCast]
  have e0 : up (up (up (up (up (up w 8 nF r) 9 nF k) 10 nF x5) 11 nF x6) 12 nF x7) 13 nF 0 7 0 = (nF : Int) := by simp [up, hn]
  rw [e0, wr_of (x := (nF : Int) + 1) ⟨by omega, by omega⟩, show ((nF : Int) + 1) = ((nF + 1 : Nat) : Int) by omega, bl_s]
  have e1 : up (up (up (up (up (up (up w 8 nF r) 9 nF k) 10 nF x5) 11 nF x6) 12 nF x7) 13 nF 0) 7 0 ((nF + 1 : Nat) : Int) 7 1 = (u : Int) := by simp [up, hu]
  rw [e1, wr_of (x := (u : Int) + 1) ⟨by omega, by omega⟩, bl_s, hu]
def fcB (v : World) (nF : Nat) (x1 x2 x3 x4 x5 x6 x7 : Int) : World := up (up (up (up (up (up (up (up (up v 7 nF x1) 8 (3 * nF) x2) 8 (3 * nF + 1) x3) 8 (3 * nF + 2) x4) 9 nF x5) 10 nF x6) 11 nF x7) 12 nF 0) 1 7 ((nF + 1 : Nat) : Int)
noncomputable def fcK (w31 : World) : Option (World × Int) := bnd (f_Re_buildAll w31 ) fun v33 => if v33.2 = 0 then (bl (up v33.1 1 7 (wr ((v33.1 1 7) - 1))) fun w39 => bnd (f_Re_buildAll w39 ) fun v41 => bnd (f_Re_refused v41.1 3) fun v44 => some (v44.1, 0)) else (some (v33.1, wr ((v33.1 1 7) - 1)))
noncomputable def fcF (x1 x2 x3 x4 x5 x6 x7 : Int) (v : World) : Option (World × Int) := gd (0 ≤ v 1 7 ∧ v 1 7 < 24) (bl (up v 7 (v 1 7).toNat x1) fun w8 => gd (0 ≤ wr (3 * (w8 1 7)) ∧ wr (3 * (w8 1 7)) < 72) (bl (up w8 8 (wr (3 * (w8 1 7))).toNat x2) fun w11 => gd (0 ≤ wr ((wr (3 * (w11 1 7))) + 1) ∧ wr ((wr (3 * (w11 1 7))) + 1) < 72) (bl (up w11 8 (wr ((wr (3 * (w11 1 7))) + 1)).toNat x3) fun w14 => gd (0 ≤ wr ((wr (3 * (w14 1 7))) + 2) ∧ wr ((wr (3 * (w14 1 7))) + 2) < 72) (bl (up w14 8 (wr ((wr (3 * (w14 1 7))) + 2)).toNat x4) fun w17 => gd (0 ≤ w17 1 7 ∧ w17 1 7 < 24) (bl (up w17 9 (w17 1 7).toNat x5) fun w20 => gd (0 ≤ w20 1 7 ∧ w20 1 7 < 24) (bl (up w20 10 (w20 1 7).toNat x6) fun w23 => gd (0 ≤ w23 1 7 ∧ w23 1 7 < 24) (bl (up w23 11 (w23 1 7).toNat x7) fun w26 => gd (0 ≤ w26 1 7 ∧ w26 1 7 < 24) (bl (up w26 12 (w26 1 7).toNat 0) fun w29 => bl (up w29 1 7 (wr ((w29 1 7) + 1))) fun w31 => bnd (f_Re_buildAll w31 ) fun v33 => if v33.2 = 0 then (bl (up v33.1 1 7 (wr ((v33.1 1 7) - 1))) fun w39 => bnd (f_Re_buildAll w39 ) fun v41 => bnd (f_Re_refused v41.1 3) fun v44 => some (v44.1, 0)) else (some (v33.1, wr ((v33.1 1 7) - 1)))))))))))
theorem fact96_no {w : World} {x1 x2 x3 x4 x5 x6 x7 x : Int} (hx : ¬ x = 0) : f_Re_fact_96 w x1 x2 x3 x4 x5 x6 x7 x = some (up w 1 0 x, 0) := by
  unfold f_Re_fact_96
  rw [refused_n, bnd_s]
  show (if (if x = 0 then (0 : Int) else 1) = 0 then _ else some (up w 1 0 x, 0)) = _
  rw [if_neg hx]
  exact if_neg z10
theorem fact96_n {w : World} {nF : Nat} {x1 x2 x3 x4 x5 x6 x7 : Int} (hn : w 1 7 = (nF : Int)) (h24 : nF < 24) : f_Re_fact_96 w x1 x2 x3 x4 x5 x6 x7 0 = fcK (fcB (up w 1 0 0) nF x1 x2 x3 x4 x5 x6 x7) := by
  obtain ⟨v0, h0⟩ : ∃ v, v = up w 1 0 0 := ⟨_, rfl⟩
  obtain ⟨v1, h1⟩ : ∃ v, v = up v0 7 nF x1 := ⟨_, rfl⟩
  obtain ⟨v2, h2⟩ : ∃ v, v = up v1 8 (3 * nF) x2 := ⟨_, rfl⟩
  obtain ⟨v3, h3⟩ : ∃ v, v = up v2 8 (3 * nF + 1) x3 := ⟨_, rfl⟩
  obtain ⟨v4, h4⟩ : ∃ v, v = up v3 8 (3 * nF + 2) x4 := ⟨_, rfl⟩
  obtain ⟨v5, h5⟩ : ∃ v, v = up v4 9 nF x5 := ⟨_, rfl⟩
  obtain ⟨v6, h6⟩ : ∃ v, v = up v5 10 nF x6 := ⟨_, rfl⟩
  obtain ⟨v7, h7⟩ : ∃ v, v = up v6 11 nF x7 := ⟨_, rfl⟩
  obtain ⟨v8, h8⟩ : ∃ v, v = up v7 12 nF 0 := ⟨_, rfl⟩
  have e0 : v0 1 7 = (nF : Int) := by rw [h0]; simp [up, hn]
  have e1 : v1 1 7 = (nF : Int) := by rw [h1]; simp [up, e0]
  have e2 : v2 1 7 = (nF : Int) := by rw [h2]; simp [up, e1]
  have e3 : v3 1 7 = (nF : Int) := by rw [h3]; simp [up, e2]
  have e4 : v4 1 7 = (nF : Int) := by rw [h4]; simp [up, e3]
  have e5 : v5 1 7 = (nF : Int) := by rw [h5]; simp [up, e4]
  have e6 : v6 1 7 = (nF : Int) := by rw [h6]; simp [up, e5]
  have e7 : v7 1 7 = (nF : Int) := by rw [h7]; simp [up, e6]
  have e8 : v8 1 7 = (nF : Int) := by rw [h8]; simp [up, e7]
  have i0 : wr (3 * (nF : Int)) = ((3 * nF : Nat) : Int) := by rw [wr_of (x := 3 * (nF : Int)) ⟨by omega, by omega⟩]; omega
  have i1 : wr (((3 * nF : Nat) : Int) + 1) = ((3 * nF + 1 : Nat) : Int) := by rw [wr_of (x := ((3 * nF : Nat) : Int) + 1) ⟨by omega, by omega⟩]; omega
  have i2 : wr (((3 * nF : Nat) : Int) + 2) = ((3 * nF + 2 : Nat) : Int) := by rw [wr_of (x := ((3 * nF : Nat) : Int) + 2) ⟨by omega, by omega⟩]; omega
  have i3 : wr ((nF : Int) + 1) = ((nF + 1 : Nat) : Int) := by rw [wr_of (x := (nF : Int) + 1) ⟨by omega, by omega⟩]; omega
  refine (ref_ok (f := fcF x1 x2 x3 x4 x5 x6 x7) (g := fun v => some (v, 0))).trans ?_
  rw [← h0]
  unfold fcF
  rw [e0, gd_t ⟨by omega, by omega⟩, bl_s, Int.toNat_natCast, ← h1, e1, i0, gd_t ⟨by omega, by omega⟩, bl_s, Int.toNat_natCast, ← h2, e2, i0, i1, gd_t ⟨by omega, by omega⟩, bl_s, Int.toNat_natCast, ← h3, e3, i0, i2, gd_t ⟨by omega, by omega⟩, bl_s, Int.toNat_natCast, ← h4, e4, gd_t ⟨by omega, by omega⟩, bl_s, Int.toNat_natCast, ← h5, e5, gd_t ⟨by omega, by omega⟩, bl_s, Int.toNat_natCast, ← h6, e6, gd_t ⟨by omega, by omega⟩, bl_s, Int.toNat_natCast, ← h7, e7, gd_t ⟨by omega, by omega⟩, bl_s, Int.toNat_natCast, ← h8, e8, i3, bl_s]
  unfold fcB fcK
  rw [← h1, ← h2, ← h3, ← h4, ← h5, ← h6, ← h7, ← h8]
theorem IFac_add {nF r a b d : Nat} {wA wB : World} {x5 x6 x7 : Int} (h : IFac nF wA wB) (h24 : nF < 24) (hS : ISch wA wB) (hr : r < 10) (hd : 1 ≤ wA 3 r) (ha : a < 128 ∧ b < 128 ∧ d < 128) (hz : ∀ j : Nat, j < 3 → wA 3 r ≤ (j : Int) → clm (pk a b d) j = 0) (h5 : 1 ≤ x5 ∧ x5 ≤ 100) (h6 : 0 ≤ x6 ∧ x6 ≤ x7 ∧ x7 ≤ 3) : IFac (nF + 1) (fApp wA nF (r : Int) ((pk a b d : Nat) : Int) x5 x6 x7) (fcB (up wB 1 0 0) nF (r : Int) (a : Int) (b : Int) (d : Int) x5 x6 x7) := by
  obtain ⟨f1, f2, f3, f4⟩ := h
  obtain ⟨wA', hwA⟩ : ∃ w, w = fApp wA nF (r : Int) ((pk a b d : Nat) : Int) x5 x6 x7 := ⟨_, rfl⟩
  obtain ⟨wB', hwB⟩ : ∃ w, w = fcB (up wB 1 0 0) nF (r : Int) (a : Int) (b : Int) (d : Int) x5 x6 x7 := ⟨_, rfl⟩
  rw [← hwA, ← hwB]
  have A3 : wA' 3 = wA 3 := by rw [hwA]; unfold fApp; funext q; simp [up]
  have B3 : wB' 3 = wB 3 := by rw [hwB]; unfold fcB; funext q; simp [up]
  have Ao : ∀ c f, 8 ≤ c → c ≤ 13 → f ≠ nF → wA' c f = wA c f := fun c f h1 h2 h3 => by
    rw [hwA]; unfold fApp
    simp [up, h3, show c ≠ 7 by omega]
  have Bo : ∀ c f, 7 ≤ c → c ≤ 12 → c ≠ 8 → f ≠ nF → wB' c f = wB c f := fun c f h1 h2 h3 h4 => by
    rw [hwB]; unfold fcB
    simp [up, h3, h4, show c ≠ 1 by omega]
  have B8 : ∀ k, k < 3 * nF → wB' 8 k = wB 8 k := fun k hk => by
    rw [hwB]; unfold fcB
    simp [up, show k ≠ 3 * nF by omega, show k ≠ 3 * nF + 1 by omega, show k ≠ 3 * nF + 2 by omega]
  have a8 : wA' 8 nF = (r : Int) := by rw [hwA]; unfold fApp; simp [up]
  have a9 : wA' 9 nF = ((pk a b d : Nat) : Int) := by rw [hwA]; unfold fApp; simp [up]
  have a10 : wA' 10 nF = x5 := by rw [hwA]; unfold fApp; simp [up]
  have a11 : wA' 11 nF = x6 := by rw [hwA]; unfold fApp; simp [up]
  have a12 : wA' 12 nF = x7 := by rw [hwA]; unfold fApp; simp [up]
  have a13 : wA' 13 nF = 0 := by rw [hwA]; unfold fApp; simp [up]
  have a70 : wA' 7 0 = ((nF + 1 : Nat) : Int) := by rw [hwA]; unfold fApp; simp [up]
  have a71 : wA' 7 1 = wA 7 1 + 1 := by rw [hwA]; unfold fApp; simp [up]
  have b7 : wB' 7 nF = (r : Int) := by rw [hwB]; unfold fcB; simp [up]
  have b80 : wB' 8 (3 * nF) = (a : Int) := by rw [hwB]; unfold fcB; simp [up]
  have b81 : wB' 8 (3 * nF + 1) = (b : Int) := by rw [hwB]; unfold fcB; simp [up]
  have b82 : wB' 8 (3 * nF + 2) = (d : Int) := by rw [hwB]; unfold fcB; simp [up]
  have b9 : wB' 9 nF = x5 := by rw [hwB]; unfold fcB; simp [up]
  have b10 : wB' 10 nF = x6 := by rw [hwB]; unfold fcB; simp [up]
  have b11 : wB' 11 nF = x7 := by rw [hwB]; unfold fcB; simp [up]
  have b12 : wB' 12 nF = 0 := by rw [hwB]; unfold fcB; simp [up]
  have b17 : wB' 1 7 = ((nF + 1 : Nat) : Int) := by rw [hwB]; unfold fcB; simp [up]
  have hlt := pkq_lt ha.1 ha.2.1 ha.2.2
  have eB3 : ∀ r : Nat, r < 10 → wB 3 r = wA 3 r := fun r hr => (hS.2 r hr).1
  have b8 : ∀ j, j < 3 → wB' 8 (3 * nF + j) = ((clm (pk a b d) j : Nat) : Int) := three.mpr ⟨by show wB' 8 (3 * nF) = ((cl0 _ : Nat) : Int); rw [b80, cl0_pk ha.1 ha.2.1 ha.2.2], by show _ = ((cl1 _ : Nat) : Int); rw [b81, cl1_pk ha.1 ha.2.1 ha.2.2], by show _ = ((cl2 _ : Nat) : Int); rw [b82, cl2_pk ha.1 ha.2.1 ha.2.2]⟩
  refine ⟨⟨a70, by omega, fun f hf => ?_⟩, ⟨b17, by omega, fun f hf => ?_⟩, fun f hf => ?_, ?_⟩
  · by_cases q : f = nF
    · subst q
      exact ⟨r, pk a b d, a8, hr, by rw [A3]; exact hd, a9, hlt, fun j hj h3 => hz j h3 (by rw [A3] at hj; exact hj)⟩
    · obtain ⟨r', k, y1, y2, y3, y4, y5, y6⟩ := f1.2.2 f (by omega)
      exact ⟨r', k, by rw [Ao 8 f (by omega) (by omega) q]; exact y1, y2, by rw [A3]; exact y3, by rw [Ao 9 f (by omega) (by omega) q]; exact y4, y5, (Vc_3 A3).mpr y6⟩
  · by_cases q : f = nF
    · subst q
      exact ⟨r, pk a b d, b7, hr, by rw [B3, eB3 r hr]; exact hd, b8, hlt, fun j hj h3 => hz j h3 (by rw [B3, eB3 r hr] at hj; exact hj)⟩
    · obtain ⟨r', k, y1, y2, y3, y4, y5, y6⟩ := f2.2.2 f (by omega)
      exact ⟨r', k, by rw [Bo 7 f (by omega) (by omega) (by omega) q]; exact y1, y2, by rw [B3]; exact y3, fun j hj => by rw [B8 _ (by omega)]; exact y4 j hj, y5, (Vc_3 B3).mpr y6⟩
  · by_cases q : f = nF
    · subst q
      rw [a8, a9, a10, a11, a12, a13, b7, b9, b10, b11, b12]
      exact ⟨rfl, ⟨pk a b d, rfl, hlt, b8⟩, ⟨rfl, h5⟩, ⟨rfl, rfl, h6⟩, rfl, Or.inl rfl⟩
    · have := f3 f (by omega)
      rw [Ao 8 f (by omega) (by omega) q, Ao 9 f (by omega) (by omega) q, Ao 10 f (by omega) (by omega) q, Ao 11 f (by omega) (by omega) q, Ao 12 f (by omega) (by omega) q, Ao 13 f (by omega) (by omega) q, Bo 7 f (by omega) (by omega) (by omega) q, Bo 9 f (by omega) (by omega) (by omega) q, Bo 10 f (by omega) (by omega) (by omega) q, Bo 11 f (by omega) (by omega) (by omega) q, Bo 12 f (by omega) (by omega) (by omega) q]
      obtain ⟨z1, ⟨k, z2, z3, z4⟩, z5⟩ := this
      exact ⟨z1, ⟨k, z2, z3, fun j hj => by rw [B8 _ (by omega)]; exact z4 j hj⟩, z5⟩
  · have es : cnt (fun f => decide (wA' 13 f = 0)) (nF + 1) = cnt (fun f => decide (wA' 13 f = 0)) nF + (if decide (wA' 13 nF = 0) = true then 1 else 0) := rfl
    rw [a71, f4, es, a13, cnt_congr (P := fun f => decide (wA' 13 f = 0)) (Q := fun f => decide (wA 13 f = 0)) (fun i hi => by show decide (wA' 13 i = 0) = decide (wA 13 i = 0); rw [Ao 13 i (by omega) (by omega) (by omega)])]
    simp
/-- facts ahead of some are as they were -/
theorem IFac_cut {nF : Nat} {wA wB wA' wB' : World} (A3 : wA' 3 = wA 3) (A70 : wA' 7 0 = (nF : Int)) (A71 : wA' 7 1 = wA 7 1) (Ao : ∀ c f, 8 ≤ c → c ≤ 13 → f < nF → wA' c f = wA c f) (B3 : wB' 3 = wB 3) (B7 : wB' 1 7 = (nF : Int)) (Bo : ∀ c f, 7 ≤ c → c ≤ 12 → c ≠ 8 → f < nF → wB' c f = wB c f) (B8 : ∀ k, k < 3 * nF → wB' 8 k = wB 8 k) (h : IFac nF wA wB) : IFac nF wA' wB' := by
  obtain ⟨f1, f2, f3, f4⟩ := h
  refine ⟨⟨A70, f1.2.1, fun f hf => ?_⟩, ⟨B7, f1.2.1, fun f hf => ?_⟩, fun f hf => ?_, ?_⟩
  · obtain ⟨r', k, y1, y2, y3, y4, y5, y6⟩ := f1.2.2 f hf
    exact ⟨r', k, by rw [Ao 8 f (by omega) (by omega) hf]; exact y1, y2, by rw [A3]; exact y3, by rw [Ao 9 f (by omega) (by omega) hf]; exact y4, y5, (Vc_3 A3).mpr y6⟩
  · obtain ⟨r', k, y1, y2, y3, y4, y5, y6⟩ := f2.2.2 f hf
    exact ⟨r', k, by rw [Bo 7 f (by omega) (by omega) (by omega) hf]; exact y1, y2, by rw [B3]; exact y3, fun j hj => by rw [B8 _ (by omega)]; exact y4 j hj, y5, (Vc_3 B3).mpr y6⟩
  · have := f3 f hf
    rw [Ao 8 f (by omega) (by omega) hf, Ao 9 f (by omega) (by omega) hf, Ao 10 f (by omega) (by omega) hf, Ao 11 f (by omega) (by omega) hf, Ao 12 f (by omega) (by omega) hf, Ao 13 f (by omega) (by omega) hf, Bo 7 f (by omega) (by omega) (by omega) hf, Bo 9 f (by omega) (by omega) (by omega) hf, Bo 10 f (by omega) (by omega) (by omega) hf, Bo 11 f (by omega) (by omega) (by omega) hf, Bo 12 f (by omega) (by omega) (by omega) hf]
    obtain ⟨z1, ⟨k, z2, z3, z4⟩, z5⟩ := this
    exact ⟨z1, ⟨k, z2, z3, fun j hj => by rw [B8 _ (by omega)]; exact z4 j hj⟩, z5⟩
  · rw [A71, f4, cnt_congr (P := fun f => decide (wA' 13 f = 0)) (Q := fun f => decide (wA 13 f = 0)) (fun i hi => by show decide (wA' 13 i = 0) = decide (wA 13 i = 0); rw [Ao 13 i (by omega) (by omega) hi])]
theorem FFA_cut {nF : Nat} {w w' : World} {hour wo : Int} (Ao : ∀ c f, 8 ≤ c → c ≤ 13 → f < nF → w' c f = w c f) : ∀ r k, FFA nF w' hour wo r k ↔ FFA nF w hour wo r k := by
  intro r k
  unfold FFA FaC
  refine exists_congr fun f => and_congr_right fun hf => ?_
  rw [Ao 8 f (by omega) (by omega) hf, Ao 9 f (by omega) (by omega) hf, Ao 11 f (by omega) (by omega) hf, Ao 12 f (by omega) (by omega) hf, Ao 13 f (by omega) (by omega) hf]
theorem FCA_cut {nF : Nat} {w w' : World} {hour : Int} (Ao : ∀ c f, 8 ≤ c → c ≤ 13 → f < nF → w' c f = w c f) : FCA nF w' hour = FCA nF w hour := by
  funext r k v
  unfold FCA FaC
  refine propext (exists_congr fun f => and_congr_right fun hf => ?_)
  rw [Ao 8 f (by omega) (by omega) hf, Ao 9 f (by omega) (by omega) hf, Ao 10 f (by omega) (by omega) hf, Ao 11 f (by omega) (by omega) hf, Ao 12 f (by omega) (by omega) hf, Ao 13 f (by omega) (by omega) hf]
/-- a fact of other hours -/
theorem FFA_more {nF : Nat} {w w' : World} {hour wo : Int} (Ao : ∀ c f, 8 ≤ c → c ≤ 13 → f < nF → w' c f = w c f) (hn : ¬ (w' 11 nF ≤ hour ∧ hour ≤ w' 12 nF)) : ∀ r k, FFA nF w hour wo r k ↔ FFA (nF + 1) w' hour wo r k := by
  intro r k
  rw [← FFA_cut Ao r k]
  constructor
  · rintro ⟨f, hf, h⟩
    exact ⟨f, by omega, h⟩
  · rintro ⟨f, hf, h⟩
    by_cases q : f = nF
    · subst q
      exact absurd ⟨h.1.2.1, h.1.2.2.1⟩ hn
    · exact ⟨f, by omega, h⟩
