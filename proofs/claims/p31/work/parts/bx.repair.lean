/-! BOTH: repair -/
theorem mends_both {nF m d now top : Nat} {L g : Nat → Nat} {w u : World} {mask : Int} (hI : Inv nF m d now top L g w u) : ∃ w' u' v, f_Dm_mends w mask = some (w', v) ∧ f_Re_repairs u mask = some (u', v) ∧ QAr w w' ∧ QBr u u' := by
  obtain ⟨w1, u1, tv, N, ρ, c, Lc, n, ρ', c', p1, p2, p3, p4, p5, p6, p7, p8, p9⟩ := trial_both (hour := (now : Int)) (wo := mask) (x4 := 0) hI.low.S hI.2.2.2.2.2.2.2.2.2.1 hI.2.2.2.2.2.2.2.2.2.2
  have hJ := Inv_q p3 p4.1 hI
  have n12 : w 1 12 = (now : Int) := hI.2.2.2.2.2.1.1
  have n11 : u 1 1 = (now : Int) := hI.2.2.2.2.2.1.2.1
  rcases p9 with ⟨q1, q2, hn, q3⟩ | ⟨q1, q2⟩
  · obtain ⟨w2, u2, y, y1, y2, y3, y4, y5⟩ := broken_both hJ (by decide +kernel) p5 p6 p7 p8 hn q3
    have y2 : f_Re_brokenIn u1 4 = some (u2, y) := y2
    have hA : f_Dm_mends w mask = if y = 0 then some (w2, 1) else some (w2, 0) := by
      unfold f_Dm_mends
      rw [n12, p1, bnd_s, if_pos q2, y1, bnd_s]
    have hB : f_Re_repairs u mask = if y = 0 then some (u2, 1) else some (u2, 0) := by
      unfold f_Re_repairs
      rw [n11, p2, bnd_s, q1, if_neg z10, y2, bnd_s]
    by_cases hy : y = 0
    · rw [if_pos hy] at hA hB
      exact ⟨w2, u2, 1, hA, hB, p3.trans y3, p4.1.trans y4⟩
    · rw [if_neg hy] at hA hB
      exact ⟨w2, u2, 0, hA, hB, p3.trans y3, p4.1.trans y4⟩
  · refine ⟨w1, u1, 0, ?_, ?_, p3, p4.1⟩
    · unfold f_Dm_mends
      rw [n12, p1, bnd_s, if_neg (by omega)]
    · unfold f_Re_repairs
      rw [n11, p2, bnd_s, q1, if_pos rfl]
theorem skip73 {u : World} {k : Nat} (hk : k < 24) (h : f_Re_holdsIn u (k : Int) (u 1 1) 0 = some 0) : ∀ (j i : Nat), i + j = k → f_Re_repair_73 u (k : Int) (i : Int) = some (Sum.inl (u, ((k + 1 : Nat) : Int))) := by
  intro j
  induction j with
  | zero =>
    intro i hi
    have e : i = k := by omega
    subst e
    unfold f_Re_repair_73
    refine lp_out ?_
    show f_Re_repair_73B u (i : Int) (i : Int) = _
    unfold f_Re_repair_73B
    rw [if_pos (Int.le_refl _), bl_s, wr_of (x := (i : Int) + 1) ⟨by omega, by omega⟩]
    rfl
  | succ j ih =>
    intro i hi
    have := ih (i + 1) (by omega)
    have hstep : f_Re_repair_73B u (k : Int) (i : Int) = some (Sum.inl (u, ((i + 1 : Nat) : Int))) := by
      unfold f_Re_repair_73B f_Re_repair_126
      rw [if_neg (by omega), h, bnd_s, if_pos rfl, bl_s, wr_of (x := (i : Int) + 1) ⟨by omega, by omega⟩]
      rfl
    unfold f_Re_repair_73 at this ⊢
    rw [lp_step (F := fun z : (World × Int) => f_Re_repair_73B z.1 (k : Int) z.2) (s := (u, (i : Int))) hstep]
    exact this
theorem inner_rep {nF m d now top k : Nat} {L g : Nat → Nat} {wA wB : World} (hI : Inv nF m d now top L g wA wB) (hk : k < nF) : ∀ (j i : Nat) (w u : World), i + j = k → QAr wA w → QBr wB u → ∃ w' u', QAr wA w' ∧ QBr wB u' ∧ ((f_Dm_repair_76 w (k : Int) (i : Int) = some (Sum.inl (w', ((k + 1 : Nat) : Int))) ∧ f_Re_repair_73 u (k : Int) (i : Int) = some (Sum.inl (u', ((k + 1 : Nat) : Int)))) ∨ ∃ x : Int, f_Dm_repair_76 w (k : Int) (i : Int) = some (Sum.inr (w', x)) ∧ f_Re_repair_73 u (k : Int) (i : Int) = some (Sum.inr (u', x))) := by
  have h24 : nF ≤ 24 := hI.2.1.1.2.1
  have e139 : ∀ w : World, f_Dm_repair_139 w (k : Int) = some (Sum.inl (w, ((k + 1 : Nat) : Int))) := fun w => by
    unfold f_Dm_repair_139
    rw [bl_s, wr_of (x := (k : Int) + 1) ⟨by omega, by omega⟩]
    rfl
  intro j
  induction j with
  | zero =>
    intro i w u hi hA hB
    have e : i = k := by omega
    subst e
    refine ⟨w, u, hA, hB, Or.inl ⟨?_, ?_⟩⟩
    · unfold f_Dm_repair_76
      refine lp_out ?_
      show f_Dm_repair_76B w (i : Int) (i : Int) = _
      unfold f_Dm_repair_76B
      rw [if_pos (Int.le_refl _), e139, bnd_s]
    · unfold f_Re_repair_73
      refine lp_out ?_
      show f_Re_repair_73B u (i : Int) (i : Int) = _
      unfold f_Re_repair_73B
      rw [if_pos (Int.le_refl _), bl_s, wr_of (x := (i : Int) + 1) ⟨by omega, by omega⟩]
      rfl
  | succ j ih =>
    intro i w u hi hA hB
    have hJ := Inv_q hA hB hI
    obtain ⟨v, v1, v2, v3⟩ := holds_both hJ hk
    by_cases hv : v = 0
    · refine ⟨w, u, hA, hB, Or.inl ⟨?_, skip73 (by omega) (by rw [v2, hv]) (j + 1) i hi⟩⟩
      unfold f_Dm_repair_76
      refine lp_out ?_
      show f_Dm_repair_76B w (k : Int) (i : Int) = _
      unfold f_Dm_repair_76B
      rw [if_neg (by omega), v1, bnd_s, if_pos hv, e139, bnd_s]
    · have go : ∀ w1 u1 : World, QAr wA w1 → QBr wB u1 → f_Dm_repair_76B w (k : Int) (i : Int) = some (Sum.inl (w1, ((i + 1 : Nat) : Int))) → f_Re_repair_73B u (k : Int) (i : Int) = some (Sum.inl (u1, ((i + 1 : Nat) : Int))) → ∃ w' u', QAr wA w' ∧ QBr wB u' ∧ ((f_Dm_repair_76 w (k : Int) (i : Int) = some (Sum.inl (w', ((k + 1 : Nat) : Int))) ∧ f_Re_repair_73 u (k : Int) (i : Int) = some (Sum.inl (u', ((k + 1 : Nat) : Int)))) ∨ ∃ x : Int, f_Dm_repair_76 w (k : Int) (i : Int) = some (Sum.inr (w', x)) ∧ f_Re_repair_73 u (k : Int) (i : Int) = some (Sum.inr (u', x))) := fun w1 u1 h1 h2 s1 s2 => by
        have eA : f_Dm_repair_76 w (k : Int) (i : Int) = f_Dm_repair_76 w1 (k : Int) ((i + 1 : Nat) : Int) := by
          unfold f_Dm_repair_76
          exact lp_step (F := fun z : (World × Int) => f_Dm_repair_76B z.1 (k : Int) z.2) (s := (w, (i : Int))) s1
        have eB : f_Re_repair_73 u (k : Int) (i : Int) = f_Re_repair_73 u1 (k : Int) ((i + 1 : Nat) : Int) := by
          unfold f_Re_repair_73
          exact lp_step (F := fun z : (World × Int) => f_Re_repair_73B z.1 (k : Int) z.2) (s := (u, (i : Int))) s2
        rw [eA, eB]
        exact ih (i + 1) w1 u1 (by omega) h1 h2
      have e133 : ∀ w : World, f_Dm_repair_133 w (k : Int) (i : Int) = some (Sum.inl (w, ((i + 1 : Nat) : Int))) := fun w => by
        unfold f_Dm_repair_133
        rw [bl_s, wr_of (x := (i : Int) + 1) ⟨by omega, by omega⟩]
        rfl
      have e126 : ∀ u : World, f_Re_repair_126 u (k : Int) (i : Int) = some (Sum.inl (u, ((i + 1 : Nat) : Int))) := fun u => by
        unfold f_Re_repair_126
        rw [bl_s, wr_of (x := (i : Int) + 1) ⟨by omega, by omega⟩]
        rfl
      obtain ⟨t, t1, t2, t3⟩ := holds_both hJ (f := i) (by omega)
      by_cases ht : t = 0
      · refine go w u hA hB ?_ ?_
        · unfold f_Dm_repair_76B
          rw [if_neg (by omega), v1, bnd_s, if_neg hv, t1, bnd_s, if_pos ht, e133]
        · unfold f_Re_repair_73B
          rw [if_neg (by omega), v2, bnd_s, if_neg hv, t2, bnd_s, if_pos ht, e126]
      · obtain ⟨w1, u1, y, y1, y2, y3, y4⟩ := mends_both (mask := ior (ishl 1 (k : Int)) (ishl 1 (i : Int))) hJ
        have hbA : f_Dm_repair_76B w (k : Int) (i : Int) = if y = 0 then some (Sum.inl (w1, ((i + 1 : Nat) : Int))) else some (Sum.inr (Sum.inr (w1, ior (ishl 1 (k : Int)) (ishl 1 (i : Int))))) := by
          unfold f_Dm_repair_76B
          rw [if_neg (by omega), v1, bnd_s, if_neg hv, t1, bnd_s, if_neg ht, y1, bnd_s, e133]
        have hbB : f_Re_repair_73B u (k : Int) (i : Int) = if y = 0 then some (Sum.inl (u1, ((i + 1 : Nat) : Int))) else some (Sum.inr (Sum.inr (u1, ior (ishl 1 (k : Int)) (ishl 1 (i : Int))))) := by
          unfold f_Re_repair_73B
          rw [if_neg (by omega), v2, bnd_s, if_neg hv, t2, bnd_s, if_neg ht, y2, bnd_s, e126]
        by_cases hy : y = 0
        · exact go w1 u1 (hA.trans y3) (hB.trans y4) (by rw [hbA, if_pos hy]) (by rw [hbB, if_pos hy])
        · rw [if_neg hy] at hbA hbB
          refine ⟨w1, u1, hA.trans y3, hB.trans y4, Or.inr ⟨ior (ishl 1 (k : Int)) (ishl 1 (i : Int)), ?_, ?_⟩⟩
          · unfold f_Dm_repair_76
            exact lp_out (F := fun z : (World × Int) => f_Dm_repair_76B z.1 (k : Int) z.2) (s := (w, (i : Int))) hbA
          · unfold f_Re_repair_73
            exact lp_out (F := fun z : (World × Int) => f_Re_repair_73B z.1 (k : Int) z.2) (s := (u, (i : Int))) hbB
theorem pairs_rep {nF m d now top : Nat} {L g : Nat → Nat} {wA wB : World} (hI : Inv nF m d now top L g wA wB) : ∀ (j k : Nat) (w u : World), k + j = nF → QAr wA w → QBr wB u → ∃ w' u' y, f_Dm_repair_63 w (k : Int) = some (w', y) ∧ f_Re_repair_63 u (k : Int) = some (u', y) ∧ QAr wA w' ∧ QBr wB u' := by
  intro j
  induction j with
  | zero =>
    intro k w u hk hA hB
    have hJ := Inv_q hA hB hI
    refine ⟨w, u, -1, ?_, ?_, hA, hB⟩
    · unfold f_Dm_repair_63
      refine lp_out ?_
      show f_Dm_repair_63B w (k : Int) = _
      unfold f_Dm_repair_63B
      rw [hJ.2.1.1.1, if_pos (by omega)]
    · unfold f_Re_repair_63
      refine lp_out ?_
      show f_Re_repair_63B u (k : Int) = _
      unfold f_Re_repair_63B
      rw [hJ.2.1.2.1.1, if_pos (by omega)]
  | succ j ih =>
    intro k w u hk hA hB
    have hJ := Inv_q hA hB hI
    have bA : f_Dm_repair_63B w (k : Int) = f_Dm_repair_76 w (k : Int) 0 := by
      unfold f_Dm_repair_63B
      rw [hJ.2.1.1.1, if_neg (by omega)]
    have bB : f_Re_repair_63B u (k : Int) = f_Re_repair_73 u (k : Int) 0 := by
      unfold f_Re_repair_63B
      rw [hJ.2.1.2.1.1, if_neg (by omega)]
    obtain ⟨w1, u1, h1, h2, h3⟩ := inner_rep hI (k := k) (by omega) k 0 w u (by omega) hA hB
    rcases h3 with ⟨s1, s2⟩ | ⟨x, s1, s2⟩
    · have s1 : f_Dm_repair_76 w (k : Int) 0 = _ := s1
      have s2 : f_Re_repair_73 u (k : Int) 0 = _ := s2
      obtain ⟨w', u', y, y1, y2, y3⟩ := ih (k + 1) w1 u1 (by omega) h1 h2
      refine ⟨w', u', y, ?_, ?_, y3⟩
      · unfold f_Dm_repair_63 at y1 ⊢
        rw [lp_step (F := fun z : (World × Int) => f_Dm_repair_63B z.1 z.2) (s := (w, (k : Int))) (bA.trans s1)]
        exact y1
      · unfold f_Re_repair_63 at y2 ⊢
        rw [lp_step (F := fun z : (World × Int) => f_Re_repair_63B z.1 z.2) (s := (u, (k : Int))) (bB.trans s2)]
        exact y2
    · have s1 : f_Dm_repair_76 w (k : Int) 0 = _ := s1
      have s2 : f_Re_repair_73 u (k : Int) 0 = _ := s2
      refine ⟨w1, u1, x, ?_, ?_, h1, h2⟩
      · unfold f_Dm_repair_63
        exact lp_out (F := fun z : (World × Int) => f_Dm_repair_63B z.1 z.2) (s := (w, (k : Int))) (bA.trans s1)
      · unfold f_Re_repair_63
        exact lp_out (F := fun z : (World × Int) => f_Re_repair_63B z.1 z.2) (s := (u, (k : Int))) (bB.trans s2)
theorem pairs_all {nF m d now top : Nat} {L g : Nat → Nat} {wA wB : World} (hI : Inv nF m d now top L g wA wB) {w u : World} (hA : QAr wA w) (hB : QBr wB u) : ∃ w' u' y, f_Dm_repair_63 w 1 = some (w', y) ∧ f_Re_repair_63 u 0 = some (u', y) ∧ QAr wA w' ∧ QBr wB u' := by
  have hJ := Inv_q hA hB hI
  by_cases q : nF = 0
  · refine ⟨w, u, -1, ?_, ?_, hA, hB⟩
    · unfold f_Dm_repair_63
      refine lp_out ?_
      show f_Dm_repair_63B w 1 = _
      unfold f_Dm_repair_63B
      rw [hJ.2.1.1.1, if_pos (by omega)]
    · unfold f_Re_repair_63
      refine lp_out ?_
      show f_Re_repair_63B u 0 = _
      unfold f_Re_repair_63B
      rw [hJ.2.1.2.1.1, if_pos (by omega)]
  · obtain ⟨w', u', y, y1, y2, y3⟩ := pairs_rep hI (nF - 1) 1 w u (by omega) hA hB
    refine ⟨w', u', y, y1, ?_, y3⟩
    have hstep : f_Re_repair_63B u 0 = some (Sum.inl (u, ((1 : Nat) : Int))) := by
      unfold f_Re_repair_63B
      rw [hJ.2.1.2.1.1, if_neg (by omega)]
      unfold f_Re_repair_73
      refine lp_out ?_
      show f_Re_repair_73B u 0 0 = _
      unfold f_Re_repair_73B
      rw [if_pos (Int.le_refl _), bl_s]
      have : wr (0 + 1) = ((1 : Nat) : Int) := wr_of (x := 0 + 1) ⟨by omega, by omega⟩
      rw [this]
    unfold f_Re_repair_63 at y2 ⊢
    rw [lp_step (F := fun z : (World × Int) => f_Re_repair_63B z.1 z.2) (s := (u, (0 : Int))) hstep]
    exact y2
theorem one_rep {nF m d now top : Nat} {L g : Nat → Nat} {wA wB : World} (hI : Inv nF m d now top L g wA wB) : ∀ (j k : Nat) (w u : World), k + j = nF → QAr wA w → QBr wB u → ∃ w' u' y, f_Dm_repair_15 w (k : Int) = some (w', y) ∧ f_Re_repair_20 u (k : Int) = some (u', y) ∧ QAr wA w' ∧ QBr wB u' := by
  have h24 : nF ≤ 24 := hI.2.1.1.2.1
  intro j
  induction j with
  | zero =>
    intro k w u hk hA hB
    have hJ := Inv_q hA hB hI
    obtain ⟨w', u', y, y1, y2, y3⟩ := pairs_all hI hA hB
    refine ⟨w', u', y, ?_, ?_, y3⟩
    · unfold f_Dm_repair_15
      refine lp_out ?_
      show f_Dm_repair_15B w (k : Int) = _
      unfold f_Dm_repair_15B
      rw [hJ.2.1.1.1, if_pos (by omega), y1, bnd_s]
    · unfold f_Re_repair_20
      refine lp_out ?_
      show f_Re_repair_20B u (k : Int) = _
      unfold f_Re_repair_20B
      rw [hJ.2.1.2.1.1, if_pos (by omega), y2, bnd_s]
  | succ j ih =>
    intro k w u hk hA hB
    have hJ := Inv_q hA hB hI
    have e1 : ∀ w : World, f_Dm_repair_55 w (k : Int) = some (Sum.inl (w, ((k + 1 : Nat) : Int))) := fun w => by
      unfold f_Dm_repair_55
      rw [bl_s, wr_of (x := (k : Int) + 1) ⟨by omega, by omega⟩]
      rfl
    have e2 : ∀ u : World, f_Re_repair_55 u (k : Int) = some (Sum.inl (u, ((k + 1 : Nat) : Int))) := fun u => by
      unfold f_Re_repair_55
      rw [bl_s, wr_of (x := (k : Int) + 1) ⟨by omega, by omega⟩]
      rfl
    have go : ∀ w1 u1 : World, QAr wA w1 → QBr wB u1 → f_Dm_repair_15B w (k : Int) = some (Sum.inl (w1, ((k + 1 : Nat) : Int))) → f_Re_repair_20B u (k : Int) = some (Sum.inl (u1, ((k + 1 : Nat) : Int))) → ∃ w' u' y, f_Dm_repair_15 w (k : Int) = some (w', y) ∧ f_Re_repair_20 u (k : Int) = some (u', y) ∧ QAr wA w' ∧ QBr wB u' := fun w1 u1 h1 h2 s1 s2 => by
      obtain ⟨w', u', y, y1, y2, y3⟩ := ih (k + 1) w1 u1 (by omega) h1 h2
      refine ⟨w', u', y, ?_, ?_, y3⟩
      · unfold f_Dm_repair_15 at y1 ⊢
        rw [lp_step (F := fun z : (World × Int) => f_Dm_repair_15B z.1 z.2) (s := (w, (k : Int))) s1]
        exact y1
      · unfold f_Re_repair_20 at y2 ⊢
        rw [lp_step (F := fun z : (World × Int) => f_Re_repair_20B z.1 z.2) (s := (u, (k : Int))) s2]
        exact y2
    obtain ⟨v, v1, v2, v3⟩ := holds_both hJ (f := k) (by omega)
    by_cases hv : v = 0
    · refine go w u hA hB ?_ ?_
      · unfold f_Dm_repair_15B
        rw [hJ.2.1.1.1, if_neg (by omega), v1, bnd_s, if_pos hv, e1]
      · unfold f_Re_repair_20B
        rw [hJ.2.1.2.1.1, if_neg (by omega), v2, bnd_s, if_pos hv, e2]
    · obtain ⟨w1, u1, y, y1, y2, y3, y4⟩ := mends_both (mask := ishl 1 (k : Int)) hJ
      have hbA : f_Dm_repair_15B w (k : Int) = if y = 0 then some (Sum.inl (w1, ((k + 1 : Nat) : Int))) else some (Sum.inr (w1, ishl 1 (k : Int))) := by
        unfold f_Dm_repair_15B
        rw [hJ.2.1.1.1, if_neg (by omega), v1, bnd_s, if_neg hv, y1, bnd_s, e1]
      have hbB : f_Re_repair_20B u (k : Int) = if y = 0 then some (Sum.inl (u1, ((k + 1 : Nat) : Int))) else some (Sum.inr (u1, ishl 1 (k : Int))) := by
        unfold f_Re_repair_20B
        rw [hJ.2.1.2.1.1, if_neg (by omega), v2, bnd_s, if_neg hv, y2, bnd_s, e2]
      by_cases hy : y = 0
      · exact go w1 u1 (hA.trans y3) (hB.trans y4) (by rw [hbA, if_pos hy]) (by rw [hbB, if_pos hy])
      · rw [if_neg hy] at hbA hbB
        refine ⟨w1, u1, ishl 1 (k : Int), ?_, ?_, hA.trans y3, hB.trans y4⟩
        · unfold f_Dm_repair_15
          exact lp_out (F := fun z : (World × Int) => f_Dm_repair_15B z.1 z.2) (s := (w, (k : Int))) hbA
        · unfold f_Re_repair_20
          exact lp_out (F := fun z : (World × Int) => f_Re_repair_20B z.1 z.2) (s := (u, (k : Int))) hbB
theorem st_repair : St_repair II := by
  intro wA wB hII
  obtain ⟨nF, m, d, now, top, L, g, hI⟩ := id hII
  have hI0 : Inv nF m d now top L g wA (up wB 1 0 0) := Inv_up10 hI
  obtain ⟨i1, i2, i3, i4, i5, i6, i7, i8, i9, i10, i11⟩ := id hI0
  obtain ⟨⟨N, ρ, c, Lc, a1, a2, a3, a4, -⟩, n, ρ', c', b1, b2, b3, b4⟩ := (i9 now i6.2.2).A
  have hs := least_both hI0.low.S a4 b4
  obtain ⟨w1, u1, y, y1, y2, y3, y4, -⟩ := broken_both hI0 (kd_ref i8 (by omega)) a1 a2 b1 b2 b3 hs
  have hA : f_Dm_repair wA = if y = 0 then some (w1, 0) else f_Dm_repair_15 w1 0 := by
    unfold f_Dm_repair
    rw [present_n i8 i6.2.2 i6.1, bnd_s, gd_t (kd_ref i8 (by omega)), y1, bnd_s]
  have hB : f_Re_repair wB = if y = 0 then some (u1, 0) else f_Re_repair_20 u1 0 := by
    unfold f_Re_repair
    rw [bl_s, i6.2.1, y2, bnd_s]
  by_cases hy : y = 0
  · exact ⟨(w1, 0), (u1, 0), by rw [hA, if_pos hy], by rw [hB, if_pos hy], rfl, nF, m, d, now, top, L, g, Inv_q y3 y4 hI0⟩
  · obtain ⟨w2, u2, x, x1, x2, x3, x4⟩ := one_rep hI0 nF 0 w1 u1 (by omega) y3 y4
    exact ⟨(w2, x), (u2, x), by rw [hA, if_neg hy]; exact x1, by rw [hB, if_neg hy]; exact x2, rfl, nF, m, d, now, top, L, g, Inv_q x3 x4 hI0⟩
