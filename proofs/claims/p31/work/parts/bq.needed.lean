/-! BOTH: needed -/
theorem mask0 : ∀ f : Nat, f < 24 → iand (ishr 0 (f : Int)) 1 = 0 := by decide +kernel
theorem pow24 : ∀ k : Nat, k < 24 → 2 ^ k ≤ 8388608 := by decide
theorem holds_both {nF m d now top f : Nat} {L g : Nat → Nat} {wA wB : World} (hI : Inv nF m d now top L g wA wB) (hf : f < nF) : ∃ v, f_Fa_holdsIn wA (f : Int) (wA 1 12) = some v ∧ f_Re_holdsIn wB (f : Int) (wB 1 1) 0 = some v ∧ (v = 0 ∨ v = 1) := by
  obtain ⟨i1, i2, i3, i4, i5, i6, -⟩ := hI
  have h24 : nF ≤ 24 := i2.1.2.1
  obtain ⟨v, h1, h2, h3⟩ := holdsIn_n (hour := (now : Int)) i2.1.1 h24 hf
  obtain ⟨u, k1, k2, k3⟩ := holdsInB_n (w := wB) (f := f) (hour := (now : Int)) (wo := 0) (by omega)
  obtain ⟨-, -, -, ⟨b1, b2, -⟩, a6, -⟩ := i2.2.2.1 f hf
  rw [mask0 f (by omega), a6, b1, b2] at k3
  refine ⟨v, by rw [i6.1]; exact h1, ?_, h2⟩
  rw [i6.2.1, k1]
  have e : v = 1 ↔ u = 1 := ⟨fun z => k3.mpr ⟨(h3.mp z).1, (h3.mp z).2.1, (h3.mp z).2.2, rfl⟩, fun z => h3.mpr ⟨(k3.mp z).1, (k3.mp z).2.1, (k3.mp z).2.2.1⟩⟩
  have : u = v := by
    rcases h2 with z | z
    · rcases k2 with y | y
      · omega
      · have := e.mpr y; omega
    · have := e.mp z; omega
  rw [this]
theorem bit_k {k : Nat} (hk : k < 24) : ishl 1 (k : Int) = ((2 ^ k : Nat) : Int) := by
  have := pow24 k hk
  have h := ishl_n (a := 1) (k := k) (by omega) (by omega)
  rw [Nat.one_mul] at h
  exact h
theorem needed_loop {nF m d now top r : Nat} {L g : Nat → Nat} {wA wB : World} {x2 x3 x4 : Int} (hI : Inv nF m d now top L g wA wB) (hr : r < 10) (hd : 1 ≤ wA 3 r) : ∀ (j k : Nat) (w u : World) (a : Nat), k + j = nF → QAr wA w → QBr wB u → u 1 0 = wB 1 0 → a < 2 ^ k →
    ∃ w' u' x, f_Dm_needed_42 w (r : Int) x2 x3 x4 (a : Int) 1 (k : Int) = some (w', 0, x) ∧ f_Re_needed_32 u (r : Int) x2 x3 x4 (a : Int) (k : Int) = some (u', x) ∧ QAr wA w' ∧ QBr wB u' ∧ u' 1 0 = wB 1 0 := by
  intro j
  induction j with
  | zero =>
    intro k w u a hk hA hB hz ha
    have hJ := Inv_q hA hB hI
    have n7A : w 7 0 = (nF : Int) := hJ.2.1.1.1
    have n7B : u 1 7 = (nF : Int) := hJ.2.1.2.1.1
    refine ⟨w, u, (a : Int), ?_, ?_, hA, hB, hz⟩
    · unfold f_Dm_needed_42
      refine lp_out ?_
      show f_Dm_needed_42B w (r : Int) x2 x3 x4 (a : Int) 1 (k : Int) = _
      unfold f_Dm_needed_42B
      rw [if_neg z10, n7A, if_pos (by omega)]
    · unfold f_Re_needed_32
      refine lp_out ?_
      show f_Re_needed_32B u (r : Int) x2 x3 x4 (a : Int) (k : Int) = _
      unfold f_Re_needed_32B
      rw [n7B, if_pos (by omega)]
  | succ j ih =>
    intro k w u a hk hA hB hz ha
    have hJ := Inv_q hA hB hI
    have n7A : w 7 0 = (nF : Int) := hJ.2.1.1.1
    have n7B : u 1 7 = (nF : Int) := hJ.2.1.2.1.1
    have h24 : nF ≤ 24 := hJ.2.1.1.2.1
    have hk24 : k < 24 := by omega
    have hp := pow24 k hk24
    have e146 : ∀ (w : World) (a : Int), f_Dm_needed_146 w (r : Int) x2 x3 x4 a 1 (k : Int) = some (Sum.inl (w, a, ((k + 1 : Nat) : Int))) := fun w a => by
      unfold f_Dm_needed_146
      rw [bl_s, wr_of (x := (k : Int) + 1) ⟨by omega, by omega⟩]
      rfl
    have e93 : ∀ (w : World) (a : Int), f_Re_needed_93 w (r : Int) x2 x3 x4 a (k : Int) = some (Sum.inl (w, a, ((k + 1 : Nat) : Int))) := fun w a => by
      unfold f_Re_needed_93
      rw [bl_s, wr_of (x := (k : Int) + 1) ⟨by omega, by omega⟩]
      rfl
    have ha' : a < 2 ^ (k + 1) := by rw [Nat.pow_succ]; omega
    have go : ∀ (w1 u1 : World) (a1 : Nat), a1 < 2 ^ (k + 1) → QAr wA w1 → QBr wB u1 → u1 1 0 = wB 1 0 → f_Dm_needed_42B w (r : Int) x2 x3 x4 (a : Int) 1 (k : Int) = some (Sum.inl (w1, (a1 : Int), ((k + 1 : Nat) : Int))) → f_Re_needed_32B u (r : Int) x2 x3 x4 (a : Int) (k : Int) = some (Sum.inl (u1, (a1 : Int), ((k + 1 : Nat) : Int))) → ∃ w' u' x, f_Dm_needed_42 w (r : Int) x2 x3 x4 (a : Int) 1 (k : Int) = some (w', 0, x) ∧ f_Re_needed_32 u (r : Int) x2 x3 x4 (a : Int) (k : Int) = some (u', x) ∧ QAr wA w' ∧ QBr wB u' ∧ u' 1 0 = wB 1 0 := fun w1 u1 a1 h1 h2 h3 h4 s1 s2 => by
      obtain ⟨w', u', x, t1, t2, t3, t4⟩ := ih (k + 1) w1 u1 a1 (by omega) h2 h3 h4 h1
      refine ⟨w', u', x, ?_, ?_, t3, t4⟩
      · unfold f_Dm_needed_42 at t1 ⊢
        rw [lp_step (F := fun z : (World × Int × Int) => f_Dm_needed_42B z.1 (r : Int) x2 x3 x4 z.2.1 1 z.2.2) s1]
        exact t1
      · unfold f_Re_needed_32 at t2 ⊢
        rw [lp_step (F := fun z : (World × Int × Int) => f_Re_needed_32B z.1 (r : Int) x2 x3 x4 z.2.1 z.2.2) s2]
        exact t2
    obtain ⟨v, v1, v2, v3⟩ := holds_both hJ (f := k) (by omega)
    by_cases hv : v = 0
    · refine go w u a ha' hA hB hz ?_ ?_
      · unfold f_Dm_needed_42B
        rw [if_neg z10, n7A, if_neg (by omega), v1, bnd_s, if_pos hv, e146]
      · unfold f_Re_needed_32B
        rw [n7B, if_neg (by omega), v2, bnd_s, if_pos hv, e93]
    · obtain ⟨w1, u1, tv, N, ρ, c, Lc, n, ρ', c', p1, p2, p3, p4, p5, p6, p7, p8, p9⟩ := trial_both (hour := (now : Int)) (wo := ((2 ^ k : Nat) : Int)) (x4 := 0) hJ.low.S hJ.2.2.2.2.2.2.2.2.2.1 hJ.2.2.2.2.2.2.2.2.2.2
      have hA1 := hA.trans p3
      have hB1 := hB.trans p4.1
      have hz1 := p4.2.trans hz
      have hJ1 := Inv_q hA1 hB1 hI
      have j1 := hJ1.1
      have n12 : w 1 12 = (now : Int) := hJ.2.2.2.2.2.1.1
      have n11 : u 1 1 = (now : Int) := hJ.2.2.2.2.2.1.2.1
      have hor0 : ior (a : Int) 0 = (a : Int) := by
        have := ior_n (a := a) (b := 0) (by omega) (by omega)
        rw [Nat.or_zero] at this
        exact this
      have hbodyA : f_Dm_needed_42B w (r : Int) x2 x3 x4 (a : Int) 1 (k : Int) = if w1 98 2 = 0 then (bnd (f_Dm_isIn w1 98 (r : Int) x2 x3 x4) fun v20 => if v20 = 0 then (f_Dm_needed_126 w1 (r : Int) x2 x3 x4 (a : Int) 1 (k : Int) 0) else (f_Dm_needed_121 w1 (r : Int) x2 x3 x4 (a : Int) 1 (k : Int))) else (f_Dm_needed_121 w1 (r : Int) x2 x3 x4 (a : Int) 1 (k : Int)) := by
        unfold f_Dm_needed_42B
        rw [if_neg z10, n7A, if_neg (by omega), v1, bnd_s, if_neg hv, n12, bit_k hk24, p1, bnd_s]
      have hbodyB : f_Re_needed_32B u (r : Int) x2 x3 x4 (a : Int) (k : Int) = if tv = 0 then (f_Re_needed_93 u1 (r : Int) x2 x3 x4 (a : Int) (k : Int)) else (bnd (f_Re_hasTuple u1 4 (r : Int) x2 x3 x4) fun v17 => if v17 = 0 then (bl (ior (a : Int) ((2 ^ k : Nat) : Int)) fun n21 => f_Re_needed_93 u1 (r : Int) x2 x3 x4 n21 (k : Int)) else (f_Re_needed_93 u1 (r : Int) x2 x3 x4 (a : Int) (k : Int))) := by
        unfold f_Re_needed_32B
        rw [n7B, if_neg (by omega), v2, bnd_s, if_neg hv, n11, bit_k hk24, p2, bnd_s]
      have e121 : f_Dm_needed_121 w1 (r : Int) x2 x3 x4 (a : Int) 1 (k : Int) = some (Sum.inl (w1, (a : Int), ((k + 1 : Nat) : Int))) := by
        unfold f_Dm_needed_121 f_Dm_needed_126 f_Dm_needed_143
        rw [if_neg z10, hor0, bl_s, e146]
      rcases p9 with ⟨q1, q2, -, q3⟩ | ⟨q1, q2⟩
      · obtain ⟨y, y1, y2, y3⟩ := tup_same (nA := 0) (nB := 0) (x := x2) (y := x3) (z := x4) j1.1 j1.T ((j1.2 r hr).1) p5 p6 p7 p8 hr (by rw [hA1.1 3 (Or.inl (by omega))]; exact hd) q3
        have y2 : f_Re_hasTuple u1 4 (r : Int) x2 x3 x4 = some y := y2
        by_cases hy : y = 0
        · have hlt : a ||| 2 ^ k < 2 ^ (k + 1) := Nat.or_lt_two_pow ha' (Nat.pow_lt_pow_right (by omega) (by omega))
          refine go w1 u1 (a ||| 2 ^ k) hlt hA1 hB1 hz1 ?_ ?_
          · rw [hbodyA, if_pos q2, y1, bnd_s, if_pos hy]
            unfold f_Dm_needed_126 f_Dm_needed_143
            rw [if_pos rfl, bit_k hk24, ior_n (by omega) (by omega), bl_s, e146]
          · rw [hbodyB, if_neg (by omega), y2, bnd_s, if_pos hy, ior_n (by omega) (by omega), bl_s, e93]
        · refine go w1 u1 a ha' hA1 hB1 hz1 ?_ ?_
          · rw [hbodyA, if_pos q2, y1, bnd_s, if_neg hy, e121]
          · rw [hbodyB, if_neg (by omega), y2, bnd_s, if_neg hy, e93]
      · refine go w1 u1 a ha' hA1 hB1 hz1 ?_ ?_
        · rw [hbodyA, if_neg (by omega), e121]
        · rw [hbodyB, if_pos q1, e93]
theorem st_needed : St_needed II := by
  intro wA wB hII x1 x2 x3 x4 _ _ _ _
  obtain ⟨nF, m, d, now, top, L, g, hI⟩ := id hII
  obtain ⟨i1, i2, i3, i4, i5, i6, i7, i8, i9, i10, i11⟩ := id hI
  rcases decl_both i1 x1 with ⟨r, rfl, hr, hd, hA, hB⟩ | ⟨-, hA, hB⟩
  · obtain ⟨v, h1, h2, h3⟩ := isin_both (wB' := up wB 1 0 0) (x := x2) (y := x3) (z := x4) hI i6.2.2 hr hd (fun c hc => up10 hc)
    have hA0 : f_Dm_needed wA (r : Int) x2 x3 x4 = f_Dm_needed_42 wA (r : Int) x2 x3 x4 0 v 0 := by
      unfold f_Dm_needed
      rw [hA, bnd_s, if_neg z10, present_n i8 i6.2.2 i6.1, bnd_s, gd_t (kd_ref i8 (by omega)), h1, bnd_s]
    have hB0 : f_Re_needed wB (r : Int) x2 x3 x4 = if v = 0 then some (up wB 1 0 0, 0) else f_Re_needed_32 (up wB 1 0 0) (r : Int) x2 x3 x4 0 0 := by
      unfold f_Re_needed
      rw [noRel_n.1 hB, bnd_s, if_pos rfl]
      have e : up wB 1 0 0 1 1 = (now : Int) := by rw [up10_f (by decide)]; exact i6.2.1
      show bnd (f_Re_hasTuple (up wB 1 0 0) (up wB 1 0 0 1 1) (r : Int) x2 x3 x4) _ = _
      rw [e, h2, bnd_s]
    rcases h3 with z | z
    · refine ⟨(wA, 0, 0), (up wB 1 0 0, 0), ?_, ?_, thrown_n, Or.inl rfl, fun _ => rfl, II_up10 hII⟩
      · rw [hA0, z]
        unfold f_Dm_needed_42
        refine lp_out ?_
        show f_Dm_needed_42B wA (r : Int) x2 x3 x4 0 0 0 = _
        unfold f_Dm_needed_42B
        rw [if_pos rfl]
      · rw [hB0, if_pos z]
    · have hI0 : Inv nF m d now top L g wA (up wB 1 0 0) := Inv_up10 hI
      obtain ⟨w', u', x, t1, t2, t3, t4, t5⟩ := needed_loop (x2 := x2) (x3 := x3) (x4 := x4) hI0 hr hd nF 0 wA (up wB 1 0 0) 0 (by omega) (QAr.refl i10) (QBr.refl hI0.2.2.2.2.2.2.2.2.2.2) rfl (by decide)
      refine ⟨(w', 0, x), (u', x), ?_, ?_, ?_, Or.inl rfl, fun _ => rfl, nF, m, d, now, top, L, g, Inv_q t3 t4 hI0⟩
      · rw [hA0, z]; exact t1
      · rw [hB0, if_neg (by omega)]; exact t2
      · unfold f_Re_thrown
        show some (u' 1 0) = _
        rw [t5]
        simp [up]
        rfl
  · refine ⟨(wA, 1, 0), (up wB 1 0 1, 0), ?_, ?_, thrown_n, Or.inr rfl, fun e => n10 e, II_up10 hII⟩
    · unfold f_Dm_needed
      rw [hA, bnd_s, if_pos rfl]
    · unfold f_Re_needed
      rw [noRel_n.2 hB, bnd_s]
      exact if_neg z10
