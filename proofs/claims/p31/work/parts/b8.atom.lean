/-! BOTH: atom, pass -/
theorem holding_n {w : World} {b n : Nat} (hn : w b 0 = (n : Int)) (h5 : n ≤ 5) : f_Bo_holdingAtoms w b = some ((cnt (fun p => decide ((RB w b).fm p = 0)) n : Nat) : Int) := by
  unfold f_Bo_holdingAtoms f_Bo_holdingAtoms_4
  refine lp_go (F := fun z : (Int × Int) => f_Bo_holdingAtoms_4B w b z.1 z.2) (fun k => (((cnt (fun p => decide ((RB w b).fm p = 0)) k : Nat) : Int), (k : Int))) _ n (fun k hk => ?_) ?_
  · show f_Bo_holdingAtoms_4B w b ((cnt (fun p => decide ((RB w b).fm p = 0)) k : Nat) : Int) (k : Int) = some (Sum.inl (((cnt (fun p => decide ((RB w b).fm p = 0)) (k + 1) : Nat) : Int), ((k + 1 : Nat) : Int)))
    have hc := cnt_le (P := fun p => decide ((RB w b).fm p = 0)) k
    have e1 : (RB w b).fm k = w (b + 1) k := rfl
    have es : cnt (fun p => decide ((RB w b).fm p = 0)) (k + 1) = cnt (fun p => decide ((RB w b).fm p = 0)) k + (if decide ((RB w b).fm k = 0) = true then 1 else 0) := rfl
    unfold f_Bo_holdingAtoms_4B f_Bo_holdingAtoms_26
    rw [hn, if_neg (by omega), formOf_n (by omega), bnd_s, es, e1, bl_s, bl_s, bl_s, bl_s, wr_of (x := (k : Int) + 1) ⟨by omega, by omega⟩]
    by_cases q : w (b + 1) k = 0
    · rw [if_pos q, if_pos (by simpa using q), wr_of (x := ((cnt (fun p => decide ((RB w b).fm p = 0)) k : Nat) : Int) + 1) ⟨by omega, by omega⟩]
      rfl
    · rw [if_neg q, if_neg (by simpa using q), wr_of (x := ((cnt (fun p => decide ((RB w b).fm p = 0)) k : Nat) : Int) + 0) ⟨by omega, by omega⟩]
      rfl
  · show f_Bo_holdingAtoms_4B w b ((cnt (fun p => decide ((RB w b).fm p = 0)) n : Nat) : Int) (n : Int) = _
    unfold f_Bo_holdingAtoms_4B
    rw [hn, if_pos (Int.le_refl _)]
theorem atomsOf_n {w : World} {ru n : Nat} (hru : ru < 19) (hn : w 16 ru = (n : Int)) (h5 : n ≤ 5) : f_Re_atomsOf w (ru : Int) = some ((cnt (fun p => decide ((RBB w ru).fm p = 0)) n : Nat) : Int) := by
  have e0 : wr (5 * (ru : Int)) = ((5 * ru + 0 : Nat) : Int) := by rw [wr_of (x := 5 * (ru : Int)) ⟨by omega, by omega⟩]; omega
  unfold f_Re_atomsOf f_Re_atomsOf_6
  rw [e0, bl_s]
  refine lp_go (F := fun z : (Int × Int) => f_Re_atomsOf_6B w (ru : Int) z.1 z.2) (fun k => (((cnt (fun p => decide ((RBB w ru).fm p = 0)) k : Nat) : Int), ((5 * ru + k : Nat) : Int))) _ n (fun k hk => ?_) ?_
  · show f_Re_atomsOf_6B w (ru : Int) ((cnt (fun p => decide ((RBB w ru).fm p = 0)) k : Nat) : Int) ((5 * ru + k : Nat) : Int) = some (Sum.inl (((cnt (fun p => decide ((RBB w ru).fm p = 0)) (k + 1) : Nat) : Int), ((5 * ru + (k + 1) : Nat) : Int)))
    have hc := cnt_le (P := fun p => decide ((RBB w ru).fm p = 0)) k
    have e1 : (RBB w ru).fm k = w 17 (5 * ru + k) := rfl
    have es : cnt (fun p => decide ((RBB w ru).fm p = 0)) (k + 1) = cnt (fun p => decide ((RBB w ru).fm p = 0)) k + (if decide ((RBB w ru).fm k = 0) = true then 1 else 0) := rfl
    unfold f_Re_atomsOf_6B f_Re_atomsOf_35
    rw [gd_t ⟨by omega, by omega⟩, Int.toNat_natCast, hn, wr_of (x := 5 * (ru : Int)) ⟨by omega, by omega⟩, wr_of (x := 5 * (ru : Int) + (n : Int)) ⟨by omega, by omega⟩, if_neg (by omega), gd_t ⟨by omega, by omega⟩, Int.toNat_natCast, es, e1, bl_s, bl_s, bl_s, bl_s, wr_of (x := ((5 * ru + k : Nat) : Int) + 1) ⟨by omega, by omega⟩]
    by_cases q : w 17 (5 * ru + k) = 0
    · rw [if_pos q, if_pos (by simpa using q), wr_of (x := ((cnt (fun p => decide ((RBB w ru).fm p = 0)) k : Nat) : Int) + 1) ⟨by omega, by omega⟩]
      rfl
    · rw [if_neg q, if_neg (by simpa using q), wr_of (x := ((cnt (fun p => decide ((RBB w ru).fm p = 0)) k : Nat) : Int) + 0) ⟨by omega, by omega⟩]
      rfl
  · show f_Re_atomsOf_6B w (ru : Int) ((cnt (fun p => decide ((RBB w ru).fm p = 0)) n : Nat) : Int) ((5 * ru + n : Nat) : Int) = _
    unfold f_Re_atomsOf_6B
    rw [gd_t ⟨by omega, by omega⟩, Int.toNat_natCast, hn, wr_of (x := 5 * (ru : Int)) ⟨by omega, by omega⟩, wr_of (x := 5 * (ru : Int) + (n : Int)) ⟨by omega, by omega⟩, if_pos (by omega)]
theorem atom26_n {w : World} {n : Nat} {x1 x2 x3 x4 x5 s : Int} (hn : w 16 18 = (n : Int)) (h5 : n ≤ 5) : f_Re_atom_26 w x1 x2 x3 x4 x5 s = f_Re_atom_58 w x1 x2 x3 x4 x5 s (if n = 5 ∨ (x2 ≠ 0 ∧ cnt (fun p => decide ((RBB w 18).fm p = 0)) n = 3) then 1 else 0) := by
  have ha := atomsOf_n (w := w) (ru := 18) (by omega) hn h5
  have ha : f_Re_atomsOf w 18 = _ := ha
  unfold f_Re_atom_26 f_Re_atom_53 f_Re_atom_57
  rw [hn]
  by_cases q5 : n = 5
  · rw [if_pos (by omega), if_pos (Or.inl q5)]
  · rw [if_neg (by omega)]
    by_cases q0 : x2 = 0
    · rw [if_pos q0, if_neg (fun z => z.elim q5 (fun z => z.1 q0))]
    · rw [if_neg q0, ha, bnd_s]
      by_cases q3 : cnt (fun p => decide ((RBB w 18).fm p = 0)) n = 3
      · rw [if_pos (show ((cnt (fun p => decide ((RBB w 18).fm p = 0)) n : Nat) : Int) = 3 by rw [q3]; rfl), if_pos (Or.inr ⟨q0, q3⟩)]
      · rw [if_neg (show ¬ ((cnt (fun p => decide ((RBB w 18).fm p = 0)) n : Nat) : Int) = 3 from fun z => q3 (by omega)), if_neg (fun z => z.elim q5 (fun z => q3 z.2))]
theorem st_atom : St_atom II := by
  intro wA wB hII x1 x2 x3 x4 x5 _ _ _ _ _
  obtain ⟨nF, m, d, now, top, L, g, hI⟩ := id hII
  obtain ⟨n, hn5, hnA, hnB, hlA, hlB⟩ := drf_n hI
  have i1 := hI.1
  have hEq := hI.2.2.2.2.1.2.2.1
  have hFew : cnt (fun p => decide ((RB wA 94).fm p = 0)) n ≤ 3 := by rw [← hlA]; exact hI.2.2.2.2.1.2.2.2.1
  have hcs : cnt (fun p => decide ((RBB wB 18).fm p = 0)) n = cnt (fun p => decide ((RB wA 94).fm p = 0)) n := cnt_congr (fun i hi => by show decide ((RBB wB 18).fm i = 0) = decide ((RB wA 94).fm i = 0); rw [(hEq.2 i (by omega)).1])
  have h92 : ∀ x : Int, ¬ x = 0 → f_Re_atom_92 wB x1 x2 x3 x4 x5 x = some (up wB 1 0 x, 0) := fun x hx => by
    unfold f_Re_atom_92
    exact ref_no (f := fun v => if x2 = 0 then (f_Re_atom_110 v x1 x3 x4 x5 1) else (f_Re_atom_110 v x1 x3 x4 x5 0)) (g := fun v => some (v, 0)) hx
  have P : Nat → Prop := fun e => e = 0 ∨ e = 1 ∨ e = 2 ∨ e = 3
  rcases decl_both i1 x1 with ⟨r, rfl, hr, hd, hA, hB⟩ | ⟨hz, hA, hB⟩
  · obtain ⟨v, hv, hv2⟩ := permits_n (so := 1) (x := x3) (y := x4) (z := x5) i1.1 hr (by omega)
    have hv : f_Sc_permits wA (r : Int) 1 x3 x4 x5 = some v := hv
    obtain ⟨u, hu, hu2⟩ := areTerms_n (x := x3) (y := x4) (z := x5) i1.T hr
    have e3 : wB 3 r = wA 3 r := (i1.2 r hr).1
    rw [e3] at hu2
    rcases hv2 with ⟨rfl, ho⟩ | ⟨rfl, ho⟩
    · rcases hu2 with ⟨rfl, -⟩ | ⟨rfl, h'⟩
      · have hBB : f_Re_atom wB (r : Int) x2 x3 x4 x5 = if n = 5 ∨ (x2 ≠ 0 ∧ cnt (fun p => decide ((RBB wB 18).fm p = 0)) n = 3) then f_Re_atom_92 wB (r : Int) x2 x3 x4 x5 3 else f_Re_atom_92 wB (r : Int) x2 x3 x4 x5 0 := by
          unfold f_Re_atom
          rw [hB, bnd_s, if_neg z10, hu, bnd_s, if_neg z10, atom26_n hnB hn5]
          unfold f_Re_atom_58
          rw [hB, bnd_s, if_neg z10, if_neg z10]
          by_cases q : n = 5 ∨ (x2 ≠ 0 ∧ cnt (fun p => decide ((RBB wB 18).fm p = 0)) n = 3)
          · rw [if_pos q, if_neg z10, if_pos q]
          · rw [if_neg q, if_pos rfl, if_neg q]
        by_cases qf : n = 5 ∨ (x2 ≠ 0 ∧ cnt (fun p => decide ((RBB wB 18).fm p = 0)) n = 3)
        · refine no_v (e := 3) (x := 3) (fun e => e = 0 ∨ e = 1 ∨ e = 2 ∨ e = 3) hII (by decide) ?_ (by rw [hBB, if_pos qf, h92 3 z30]) rfl (Or.inr (Or.inr (Or.inr rfl)))
          unfold f_Dm_atom
          rw [hA, bnd_s, if_neg z10, hv, bnd_s, if_neg z10, hnA]
          rcases qf with q | ⟨q0, q3⟩
          · rw [if_pos (by omega)]
          · by_cases q : n = 5
            · rw [if_pos (by omega)]
            · rw [if_neg (by omega), if_neg q0, holding_n hnA hn5, bnd_s, if_neg (by omega)]
        · have hn4 : n < 5 := by
            have : n ≠ 5 := fun e => qf (Or.inl e)
            omega
          have hA84 : f_Dm_atom wA (r : Int) x2 x3 x4 x5 = f_Dm_atom_84 wA (r : Int) x2 x3 x4 x5 := by
            unfold f_Dm_atom
            rw [hA, bnd_s, if_neg z10, hv, bnd_s, if_neg z10, hnA, if_neg (by omega)]
            by_cases q0 : x2 = 0
            · rw [if_pos q0]
            · have : ¬ cnt (fun p => decide ((RBB wB 18).fm p = 0)) n = 3 := fun z => qf (Or.inr ⟨q0, z⟩)
              rw [if_neg q0, holding_n hnA hn5, bnd_s, if_pos (by omega)]
          have hsr : ∀ k : Int, k ≤ 1 → 1 ≤ (SA wA).co (r : Int) ∧ ∀ j, (SA wA).co (r : Int) ≤ j → j < 3 → pick x3 x4 x5 j = 0 := fun k _ => by
            rw [SA_co hr]
            exact ⟨by omega, fun j hj hj3 => (okC_ge hj).mp (ho j hj3)⟩
          have fin : ∀ k : Int, (k = 0 ∨ k = 1) → cnt (fun p => decide ((RB wA 94).fm p = 0)) n + (if k = 0 then 1 else 0) ≤ 3 → f_Dm_atom wA (r : Int) x2 x3 x4 x5 = f_Dm_atom_97 wA (r : Int) x3 x4 x5 k → f_Re_atom wB (r : Int) x2 x3 x4 x5 = f_Re_atom_110 (up wB 1 0 0) (r : Int) x3 x4 x5 k → ∃ (oA : World × Nat × Int) (oB : World × Int), f_Dm_atom wA (r : Int) x2 x3 x4 x5 = some oA ∧ f_Re_atom wB (r : Int) x2 x3 x4 x5 = some oB ∧ f_Re_thrown oB.1 = some (hmL 1 2 3 oA.2.1) ∧ (oA.2.1 = 0 ∨ oA.2.1 = 1 ∨ oA.2.1 = 2 ∨ oA.2.1 = 3) ∧ (oA.2.1 = 0 → oA.2.2 = oB.2) ∧ II oA.1 oB.1 := fun k hk hf h1 h2 => by
            obtain ⟨-, hI'⟩ := Inv_push (k := k) (s := (r : Int)) (x := x3) (y := x4) (z := x5) hI hnA hn4 (by omega) (hsr k) (fun h => absurd h (by omega)) (fun j hj => okC1_r (ho j hj)) hf
            refine ⟨(psh wA 94 n k (r : Int) x3 x4 x5, 0, (n : Int) + 1), (ptB (up wB 1 0 0) n k (r : Int) x3 x4 x5, (n : Int) + 1), ?_, ?_, ptB_thrown, Or.inl rfl, fun _ => rfl, nF, m, d, now, top, L, g, hI'⟩
            · rw [h1]
              unfold f_Dm_atom_97
              rw [push_n hnA hn4, bnd_s]
            · rw [h2]
              unfold f_Re_atom_110
              rw [put_n (by rw [up10 (by decide)]; exact hnB) hn4, bnd_s]
          have hB0 : f_Re_atom wB (r : Int) x2 x3 x4 x5 = if x2 = 0 then f_Re_atom_110 (up wB 1 0 0) (r : Int) x3 x4 x5 1 else f_Re_atom_110 (up wB 1 0 0) (r : Int) x3 x4 x5 0 := by
            rw [hBB, if_neg qf]
            unfold f_Re_atom_92
            exact ref_ok (f := fun v => if x2 = 0 then (f_Re_atom_110 v (r : Int) x3 x4 x5 1) else (f_Re_atom_110 v (r : Int) x3 x4 x5 0)) (g := fun v => some (v, 0))
          by_cases q0 : x2 = 0
          · refine fin 1 (Or.inr rfl) (by rw [if_neg z10]; exact hFew) ?_ (by rw [hB0, if_pos q0])
            rw [hA84]
            unfold f_Dm_atom_84
            rw [if_pos q0]
          · have : ¬ cnt (fun p => decide ((RBB wB 18).fm p = 0)) n = 3 := fun z => qf (Or.inr ⟨q0, z⟩)
            refine fin 0 (Or.inl rfl) (by rw [if_pos rfl]; omega) ?_ (by rw [hB0, if_neg q0])
            rw [hA84]
            unfold f_Dm_atom_84
            rw [if_neg q0]
      · exact absurd ho h'
    · rcases hu2 with ⟨rfl, h'⟩ | ⟨rfl, -⟩
      · exact absurd h' ho
      · refine no_v (e := 2) (x := 2) (fun e => e = 0 ∨ e = 1 ∨ e = 2 ∨ e = 3) hII (by decide) ?_ ?_ rfl (Or.inr (Or.inr (Or.inl rfl)))
        · unfold f_Dm_atom
          rw [hA, bnd_s, if_neg z10, hv, bnd_s, if_pos rfl]
        · unfold f_Re_atom f_Re_atom_25
          rw [hB, bnd_s, if_neg z10, hu, bnd_s, if_pos rfl, atom26_n hnB hn5]
          unfold f_Re_atom_58
          rw [hB, bnd_s, if_neg z10, if_pos rfl, h92 2 z20]
  · refine no_v (e := 1) (x := 1) (fun e => e = 0 ∨ e = 1 ∨ e = 2 ∨ e = 3) hII (by decide) ?_ ?_ rfl (Or.inr (Or.inl rfl))
    · unfold f_Dm_atom
      rw [hA, bnd_s, if_pos rfl]
    · unfold f_Re_atom f_Re_atom_25
      rw [hB, bnd_s, if_pos rfl, atom26_n hnB hn5]
      unfold f_Re_atom_58
      rw [hB, bnd_s, if_pos rfl, h92 1 z10]
