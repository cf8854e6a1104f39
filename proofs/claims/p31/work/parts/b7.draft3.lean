/-! BOTH: head, add, clear, atom, pass -/
theorem EqT.symm {R R' : RU} (h : EqT R R') : EqT R' R := ⟨h.1.symm, fun p hp => by rw [h.1] at hp; have := h.2 p hp; exact ⟨this.1.symm, this.2.1.symm, fun c hc => (this.2.2 c hc).symm⟩⟩
theorem II_up10 {wA wB : World} {x : Int} (h : II wA wB) : II wA (up wB 1 0 x) := by
  obtain ⟨nF, m, d, now, top, L, g, hI⟩ := h
  exact ⟨nF, m, d, now, top, L, g, Inv_up10 hI⟩
theorem no_v {wA wB : World} {a b c x : Int} {e : Nat} {fA : Option (World × Nat × Int)} {fB : Option (World × Int)} (P : Nat → Prop) (hII : II wA wB) (he0 : e ≠ 0) (h1 : fA = some (wA, e, 0)) (h2 : fB = some (up wB 1 0 x, 0)) (hx : x = hmL a b c e) (he : P e) : ∃ (oA : World × Nat × Int) (oB : World × Int), fA = some oA ∧ fB = some oB ∧ f_Re_thrown oB.1 = some (hmL a b c oA.2.1) ∧ P oA.2.1 ∧ (oA.2.1 = 0 → oA.2.2 = oB.2) ∧ II oA.1 oB.1 :=
  ⟨_, _, h1, h2, by rw [thrown_n, hx], he, fun q => absurd q he0, II_up10 hII⟩
theorem no_w {wA wB : World} {a b c x : Int} {e : Nat} {fA : Option (World × Nat × Int)} {fB : Option World} (P : Nat → Prop) (hII : II wA wB) (h1 : fA = some (wA, e, 0)) (h2 : fB = some (up wB 1 0 x)) (hx : x = hmL a b c e) (he : P e) : ∃ (oA : World × Nat × Int) (oB : World), fA = some oA ∧ fB = some oB ∧ f_Re_thrown oB = some (hmL a b c oA.2.1) ∧ P oA.2.1 ∧ II oA.1 oB :=
  ⟨_, _, h1, h2, by rw [thrown_n, hx], he, II_up10 hII⟩
theorem ptB_thrown {w : World} {n : Nat} {k s x y z : Int} : f_Re_thrown (ptB (up w 1 0 0) n k s x y z) = some 0 := by
  unfold f_Re_thrown
  have : ptB (up w 1 0 0) n k s x y z 1 0 = 0 := by unfold ptB; simp [up]
  rw [this]
theorem st_add : St_add II := by
  intro wA wB hII x1 x2 x3 _ _ _
  obtain ⟨nF, m, d, now, top, L, g, hI⟩ := id hII
  obtain ⟨n, hn5, hnA, hnB, hlA, hlB⟩ := drf_n hI
  have hno : ∀ x : Int, ¬ x = 0 → f_Re_add_54 wB x1 x2 x3 x = some (up wB 1 0 x, 0) := fun x hx => by
    unfold f_Re_add_54
    exact ref_no (f := fun v => bnd (f_Re_put v 3 0 x1 x2 x3) fun v7 => some (v7.1, v7.2)) (g := fun v => some (v, 0)) hx
  by_cases q2 : (-8 ≤ x1 ∧ x1 ≤ 127) ∧ (-8 ≤ x2 ∧ x2 ≤ 127) ∧ (-8 ≤ x3 ∧ x3 ≤ 127)
  · have hB : f_Re_add wB x1 x2 x3 = if (n : Int) = 5 then f_Re_add_54 wB x1 x2 x3 2 else f_Re_add_54 wB x1 x2 x3 0 := by
      unfold f_Re_add f_Re_add_26
      rw [isAnyTerm_n, bnd_s, if_pos q2.1, if_neg z10, isAnyTerm_n, bnd_s, if_pos q2.2.1, if_neg z10, isAnyTerm_n, bnd_s, if_pos q2.2.2, if_neg z10, if_neg z10, hnB]
    have hA : f_Dm_add wA x1 x2 x3 = if (n : Int) < 5 then (bnd (f_Bo_push wA 94 3 0 x1 x2 x3) fun v19 => some (v19.1, 0, v19.2)) else some (wA, 3, 0) := by
      unfold f_Dm_add
      rw [isTerm_n, bnd_s, if_pos q2.1, if_neg z10, isTerm_n, bnd_s, if_pos q2.2.1, if_neg z10, isTerm_n, bnd_s, if_pos q2.2.2, if_neg z10, hnA]
    by_cases q3 : n < 5
    · obtain ⟨-, hI'⟩ := Inv_push (k := 3) (s := 0) (x := x1) (y := x2) (z := x3) hI hnA q3 (by omega) (fun h => absurd h (by decide)) (fun h => absurd h (by decide)) (three.mpr ⟨⟨q2.1.1, by show x1 < 128; omega⟩, ⟨q2.2.1.1, by show x2 < 128; omega⟩, ⟨q2.2.2.1, by show x3 < 128; omega⟩⟩) (by
        rw [if_neg (by decide), ← hlA]
        exact hI.2.2.2.2.1.2.2.2.1)
      refine ⟨(psh wA 94 n 3 0 x1 x2 x3, 0, (n : Int) + 1), (ptB (up wB 1 0 0) n 3 0 x1 x2 x3, (n : Int) + 1), ?_, ?_, ptB_thrown, Or.inl rfl, fun _ => rfl, nF, m, d, now, top, L, g, hI'⟩
      · rw [hA, if_pos (by omega), push_n hnA q3, bnd_s]
      · rw [hB, if_neg (by omega)]
        unfold f_Re_add_54
        rw [ref_ok (f := fun v => bnd (f_Re_put v 3 0 x1 x2 x3) fun v7 => some (v7.1, v7.2)) (g := fun v => some (v, 0)), put_n (by rw [up10 (by decide)]; exact hnB) q3, bnd_s]
    · exact no_v (e := 3) (x := 2) (fun e => e = 0 ∨ e = 2 ∨ e = 3) hII (by decide) (by rw [hA, if_neg (by omega)]) (by rw [hB, if_pos (by omega), hno 2 z20]) rfl (Or.inr (Or.inr rfl))
  · refine no_v (e := 2) (x := 1) (fun e => e = 0 ∨ e = 2 ∨ e = 3) hII (by decide) ?_ ?_ rfl (Or.inr (Or.inl rfl))
    · unfold f_Dm_add
      rw [isTerm_n, bnd_s]
      by_cases k1 : -8 ≤ x1 ∧ x1 ≤ 127
      · rw [if_pos k1, if_neg z10, isTerm_n, bnd_s]
        by_cases k2 : -8 ≤ x2 ∧ x2 ≤ 127
        · rw [if_pos k2, if_neg z10, isTerm_n, bnd_s, if_neg (fun z => q2 ⟨k1, k2, z⟩), if_pos rfl]
        · rw [if_neg k2, if_pos rfl]
      · rw [if_neg k1, if_pos rfl]
    · have h25 : f_Re_add_25 wB x1 x2 x3 = some (up wB 1 0 1, 0) := by
        unfold f_Re_add_25 f_Re_add_26
        rw [if_pos rfl, hno 1 z10]
      unfold f_Re_add
      rw [h25, isAnyTerm_n, bnd_s]
      by_cases k1 : -8 ≤ x1 ∧ x1 ≤ 127
      · rw [if_pos k1, if_neg z10, isAnyTerm_n, bnd_s]
        by_cases k2 : -8 ≤ x2 ∧ x2 ≤ 127
        · rw [if_pos k2, if_neg z10, isAnyTerm_n, bnd_s, if_neg (fun z => q2 ⟨k1, k2, z⟩), if_pos rfl]
        · rw [if_neg k2, if_pos rfl]
      · rw [if_neg k1, if_pos rfl]
theorem setHead_n {w : World} {b : Nat} {x1 x y z : Int} : f_Bo_setHead w b x1 x y z = some (stT (up w b 1 x1) b 5 x y z) := by
  have := setTerms_n (w := up w b 1 x1) (b := b) (p := 5) (x := x) (y := y) (z := z) (by omega)
  unfold f_Bo_setHead
  rw [bl_s, show (5 : Int) = ((5 : Nat) : Int) from rfl, this, bnd_s]
def empW (w : World) (b : Nat) : World := stT (up (up w b 0 0) b 1 (-1)) b 5 0 0 0
theorem empty_n {w : World} {b : Nat} : f_Bo_empty w b = some (empW w b) := by
  unfold f_Bo_empty
  rw [bl_s, setHead_n, bnd_s]
  rfl
theorem WfL_nil {D : SH} {R : RU} (h : R.ln = 0) : WfL D R := ⟨by omega, fun p hp => absurd hp (by omega), fun p hp => absurd hp (by omega), fun p hp => absurd hp (by omega), fun p c hp => absurd hp (by omega)⟩
theorem IDrf_nil {wA wB : World} (hT : WfT wB) (h1 : wA 94 0 = 0) (h2 : wA 94 1 = -1) (h3 : wB 16 18 = 0) (h4 : wB 14 18 = -1) : IDrf wA wB := by
  have e1 : (RB wA 94).ln = 0 := by show (wA 94 0).toNat = 0; rw [h1]; rfl
  have e2 : (RBB wB 18).ln = 0 := by show (wB 16 18).toNat = 0; rw [h3]; rfl
  refine ⟨⟨by rw [e1, h1]; rfl, WfL_nil e1⟩, ⟨by omega, hT, by rw [e2, h3]; rfl, WfL_nil e2⟩, ⟨by rw [e1, e2], fun p hp => absurd hp (by omega)⟩, ?_, by rw [h2, h4], Or.inl h2⟩
  unfold Few
  rw [e1]
  exact Nat.zero_le _
theorem empW_far {w : World} {b c : Nat} (h : c < b ∨ b + 3 < c) : empW w b c = w c := by
  funext q
  unfold empW stT
  simp [up, show c ≠ b by omega, show c ≠ b + 3 by omega]
theorem empW_0 {w : World} {b : Nat} : empW w b b 0 = 0 := by
  unfold empW stT
  simp [up]
theorem empW_1 {w : World} {b : Nat} : empW w b b 1 = -1 := by
  unfold empW stT
  simp [up]
theorem Inv_clear {nF m d now top : Nat} {L g : Nat → Nat} {wA wB : World} (hI : Inv nF m d now top L g wA wB) : Inv nF m d now top L g (empW wA 94) (up (up (up wB 16 18 0) 14 18 (-1)) 1 0 0) := by
  have hT : WfT (up (up (up wB 16 18 0) 14 18 (-1)) 1 0 0) := WfT_congr (fun c a b => by funext q; simp [up, show c ≠ 1 by omega, show c ≠ 14 by omega, show c ≠ 16 by omega]) hI.1.T
  refine Inv_draft (fun c hc => empW_far (by omega)) (fun c q hcq => ?_) hI (IDrf_nil hT empW_0 empW_1 (by simp [up]) (by simp [up]))
  unfold up
  rw [if_neg (fun t => hcq (by omega)), if_neg (fun t => hcq (by omega)), if_neg (fun t => hcq (by omega))]
theorem st_clear : St_clear II := by
  intro wA wB hII
  obtain ⟨nF, m, d, now, top, L, g, hI⟩ := hII
  obtain ⟨n, hn5, hnA, hnB, hlA, hlB⟩ := drf_n hI
  refine ⟨(empW wA 94, (n : Int)), (up (up (up wB 16 18 0) 14 18 (-1)) 1 0 0, (n : Int)), ?_, ?_, rfl, nF, m, d, now, top, L, g, Inv_clear hI⟩
  · unfold f_Dm_clear
    rw [hnA, bl_s, empty_n, bnd_s]
  · unfold f_Re_clear f_Re_fine
    rw [hnB, bl_s, bl_s, bl_s, bl_s, bnd_s]
theorem okC1_r {co j : Nat} {v : Int} (h : okC 1 co j v) : -8 ≤ v ∧ v < 128 := by
  by_cases q : co ≤ j
  · have := (okC_ge q).mp h; omega
  · have := (okC_l1 q).mp h; omega
theorem Inv_head {nF m d now top : Nat} {L g : Nat → Nat} {wA wB : World} {r : Nat} {x y z : Int} (hI : Inv nF m d now top L g wA wB) (hr : r < 10) (hd : 1 ≤ wA 3 r) (ho : ∀ j, j < 3 → okC 1 (wA 3 r).toNat j (pick x y z j)) : Inv nF m d now top L g (stT (up wA 94 1 (r : Int)) 94 5 x y z) (up (up (up (up (up wB 1 0 0) 14 18 (r : Int)) 15 54 x) 15 55 y) 15 56 z) := by
  obtain ⟨e1, e2, e3, e4, e5, e6⟩ := hI.2.2.2.2.1
  have h5 : (RB wA 94).ln ≤ 5 := e1.2.1
  obtain ⟨wA', hwA⟩ : ∃ w, w = stT (up wA 94 1 (r : Int)) 94 5 x y z := ⟨_, rfl⟩
  obtain ⟨wB', hwB⟩ : ∃ w, w = up (up (up (up (up wB 1 0 0) 14 18 (r : Int)) 15 54 x) 15 55 y) 15 56 z := ⟨_, rfl⟩
  rw [← hwA, ← hwB]
  have fA : ∀ c, (c ≠ 94 ∧ c ≠ 97) → wA' c = wA c := fun c hc => by
    funext q
    rw [hwA]; unfold stT
    simp [up, hc.1, hc.2]
  have fB : ∀ c, (c ≠ 1 ∧ c ≠ 14 ∧ c ≠ 15) → wB' c = wB c := fun c hc => by
    funext q
    rw [hwB]
    simp [up, hc.1, hc.2.1, hc.2.2]
  have a0 : wA' 94 0 = wA 94 0 := by rw [hwA]; unfold stT; simp [up]
  have a1 : wA' 94 1 = (r : Int) := by rw [hwA]; unfold stT; simp [up]
  have at1 : ∀ p c, p < 5 → c < 3 → wA' 97 (3 * p + c) = wA 97 (3 * p + c) := fun p c hp hc => by
    have h0 : 3 * p + c ≠ 15 := by omega
    have h1 : 3 * p + c ≠ 16 := by omega
    have h2 : 3 * p + c ≠ 17 := by omega
    rw [hwA]; unfold stT
    simp [up, h0, h1, h2]
  have at2 : ∀ c, c < 3 → wA' 97 (15 + c) = pick x y z c := three.mpr ⟨by rw [hwA]; unfold stT; simp [up, pick], by rw [hwA]; unfold stT; simp [up, pick], by rw [hwA]; unfold stT; simp [up, pick]⟩
  have bt2 : ∀ c, c < 3 → wB' 15 (54 + c) = pick x y z c := three.mpr ⟨by rw [hwB]; simp [up, pick], by rw [hwB]; simp [up, pick], by rw [hwB]; simp [up, pick]⟩
  have b14 : wB' 14 18 = (r : Int) := by rw [hwB]; simp [up]
  have litA : EqT (RB wA 94) (RB wA' 94) := by
    refine ⟨?_, fun p hp => ⟨?_, ?_, fun c hc => ?_⟩⟩
    · show (wA' 94 0).toNat = (wA 94 0).toNat
      rw [a0]
    · show wA' 95 p = wA 95 p
      rw [fA 95 (by omega)]
    · show wA' 96 p = wA 96 p
      rw [fA 96 (by omega)]
    · exact at1 p c (by omega) hc
  have litB : EqT (RBB wB 18) (RBB wB' 18) := by
    refine ⟨?_, fun p hp => ⟨?_, ?_, fun c hc => ?_⟩⟩
    · show (wB' 16 18).toNat = (wB 16 18).toNat
      rw [fB 16 (by omega)]
    · show wB' 17 _ = wB 17 _
      rw [fB 17 (by omega)]
    · show wB' 18 _ = wB 18 _
      rw [fB 18 (by omega)]
    · show wB' 19 _ = wB 19 _
      rw [fB 19 (by omega)]
  have hSA : SA wA' = SA wA := SA_c5 (fun c a b => fA c (by omega))
  refine Inv_draft (fun c hc => fA c (by omega)) (fun c q hcq => ?_) hI ⟨⟨?_, ?_⟩, RuBL_E litB (by rw [fB 16 (by omega)]) (fun c a b => fB c (by omega)) e2, litA.symm.trans (e3.trans litB), litA.few e4, by rw [b14, a1], Or.inr ⟨⟨r, hr, a1, ?_, fun c hc hge => ?_⟩, fun c hc => ⟨?_, ?_⟩⟩⟩
  · rw [hwB]
    unfold up
    rw [if_neg (fun t => hcq (by omega)), if_neg (fun t => hcq (by omega)), if_neg (fun t => hcq (by omega)), if_neg (fun t => hcq (by omega)), if_neg (fun t => hcq (by omega))]
  · rw [a0, litA.1]; exact e1.1
  · rw [hSA]; exact litA.wf e1.2
  · rw [fA 3 (by omega)]; exact hd
  · rw [fA 3 (by omega)] at hge
    show wA' 97 (15 + c) = 0
    rw [at2 c hc]
    exact (okC_ge (show (wA 3 r).toNat ≤ c by omega)).mp (ho c hc)
  · show wB' 15 (54 + c) = wA' 97 (15 + c)
    rw [bt2 c hc, at2 c hc]
  · show -8 ≤ wA' 97 (15 + c) ∧ wA' 97 (15 + c) < 128
    rw [at2 c hc]
    exact okC1_r (ho c hc)
theorem st_head : St_head II := by
  intro wA wB hII x1 x2 x3 x4 _ _ _ _
  obtain ⟨nF, m, d, now, top, L, g, hI⟩ := id hII
  have i1 := hI.1
  have hno : ∀ x : Int, ¬ x = 0 → f_Re_head_30 wB x1 x2 x3 x4 x = some (up wB 1 0 x) := fun x hx => by
    unfold f_Re_head_30
    exact ref_no (f := fun v => bl (up v 14 18 x1) fun w6 => bl (up w6 15 54 x2) fun w7 => bl (up w7 15 55 x3) fun w8 => bl (up w8 15 56 x4) fun w9 => some w9) (g := fun v => some v) hx
  unfold f_Dm_head f_Re_head
  rcases decl_both i1 x1 with ⟨r, rfl, hr, hd, hA, hB⟩ | ⟨hz, hA, hB⟩
  · obtain ⟨v, hv, hv2⟩ := permits_n (so := 1) (x := x2) (y := x3) (z := x4) i1.1 hr (by omega)
    have hv : f_Sc_permits wA (r : Int) 1 x2 x3 x4 = some v := hv
    obtain ⟨u, hu, hu2⟩ := areTerms_n (x := x2) (y := x3) (z := x4) i1.T hr
    have e3 : wB 3 r = wA 3 r := (i1.2 r hr).1
    rw [e3] at hu2
    rw [hA, bnd_s, if_neg z10, hv, bnd_s, hB, bnd_s, if_neg z10, hu, bnd_s]
    rcases hv2 with ⟨rfl, ho⟩ | ⟨rfl, ho⟩
    · rcases hu2 with ⟨rfl, -⟩ | ⟨rfl, h'⟩
      · rw [if_neg z10, if_neg z10, setHead_n, bnd_s]
        refine ⟨_, _, rfl, ?_, ?_, Or.inl rfl, nF, m, d, now, top, L, g, Inv_head hI hr hd ho⟩
        · unfold f_Re_head_30
          rw [ref_ok (f := fun v => bl (up v 14 18 (r : Int)) fun w6 => bl (up w6 15 54 x2) fun w7 => bl (up w7 15 55 x3) fun w8 => bl (up w8 15 56 x4) fun w9 => some w9) (g := fun v => some v)]
          rfl
        · unfold f_Re_thrown
          simp [up]
          rfl
      · exact absurd ho h'
    · rcases hu2 with ⟨rfl, h'⟩ | ⟨rfl, -⟩
      · exact absurd h' ho
      · exact no_w (e := 2) (x := 2) (fun e => e = 0 ∨ e = 1 ∨ e = 2) hII (by rw [if_pos rfl]) (by rw [if_pos rfl, hno 2 z20]) rfl (Or.inr (Or.inr rfl))
  · exact no_w (e := 1) (x := 1) (fun e => e = 0 ∨ e = 1 ∨ e = 2) hII (by rw [hA, bnd_s, if_pos rfl]) (by rw [hB, bnd_s, if_pos rfl, hno 1 z10]) rfl (Or.inr (Or.inl rfl))
