/-! MEANING of the answers: tuples, hours, strata, needed facts, costs (some rows began as rows of earlier parts) -/
theorem sum6 {ρ : Nat → Nat} : ∀ N, cnt (fun s => decide (ρ s = 0)) N + cnt (fun s => decide (ρ s = 1)) N + cnt (fun s => decide (ρ s = 2)) N + cnt (fun s => decide (ρ s = 3)) N + cnt (fun s => decide (ρ s = 4)) N + cnt (fun s => decide (ρ s = 5)) N ≤ N
  | 0 => Nat.le_refl 0
  | N + 1 => by
    have ih := sum6 (ρ := ρ) N
    show (cnt (fun s => decide (ρ s = 0)) N + (if decide (ρ N = 0) = true then 1 else 0)) + (cnt (fun s => decide (ρ s = 1)) N + (if decide (ρ N = 1) = true then 1 else 0)) + (cnt (fun s => decide (ρ s = 2)) N + (if decide (ρ N = 2) = true then 1 else 0)) + (cnt (fun s => decide (ρ s = 3)) N + (if decide (ρ N = 3) = true then 1 else 0)) + (cnt (fun s => decide (ρ s = 4)) N + (if decide (ρ N = 4) = true then 1 else 0)) + (cnt (fun s => decide (ρ s = 5)) N + (if decide (ρ N = 5) = true then 1 else 0)) ≤ N + 1
    simp only [decide_eq_true_eq]
    have key : (if ρ N = 0 then 1 else 0) + (if ρ N = 1 then 1 else 0) + (if ρ N = 2 then 1 else 0) + (if ρ N = 3 then 1 else 0) + (if ρ N = 4 then 1 else 0) + (if ρ N = 5 then 1 else 0) ≤ 1 := by
      by_cases h0 : ρ N = 0
      · simp [h0]
      by_cases h1 : ρ N = 1
      · simp [h1]
      by_cases h2 : ρ N = 2
      · simp [h2]
      by_cases h3 : ρ N = 3
      · simp [h3]
      by_cases h4 : ρ N = 4
      · simp [h4]
      by_cases h5 : ρ N = 5
      · simp [h5]
      simp [h0, h1, h2, h3, h4, h5]
    omega
theorem len_cnt {w : World} {t N r : Nat} {ρ c : Nat → Nat} {Lc : Nat → List Nat} (h : AMod w t N ρ c Lc) (hr : r < 10) : (Lc r).length ≤ cnt (fun s => decide (ρ s = r)) N := by
  rw [cnt_filter]
  refine sub_len (AMod_nodup h hr) (fun x hx => ?_)
  have := (h.2.2.2.1 r x hr).mp hx
  exact List.mem_filter.mpr ⟨List.mem_range.mpr this.1, by simpa using this.2⟩
/-- the tuples of the present, by relation, in order -/
def Tup (wA : World) (T : Nat → List Nat) : Prop :=
  (∀ r, r < 6 → (T r).Pairwise (· < ·)) ∧ (T 0).length + (T 1).length + (T 2).length + (T 3).length + (T 4).length + (T 5).length ≤ 48 ∧
  (∀ r : Nat, r < 6 → f_Dm_size wA (r : Int) = some (wA, 0, ((T r).length : Int))) ∧
  (∀ r : Nat, r < 6 → ∀ (p : Nat) (hp : p < (T r).length), f_Dm_at wA (r : Int) (p : Int) = some (wA, 0, ((T r)[p] : Int)) ∧ (T r)[p] < 2097152 ∧ f_Dm_holds wA (r : Int) ((clm (T r)[p] 0 : Nat) : Int) ((clm (T r)[p] 1 : Nat) : Int) ((clm (T r)[p] 2 : Nat) : Int) = some (wA, 0, 1)) ∧
  (∀ r : Nat, r < 6 → ∀ k : Int, (k < 0 ∨ ((T r).length : Int) ≤ k) → f_Dm_at wA (r : Int) k = some (wA, 1, 0))
theorem tup_ex {wA wB : World} (h0 : II wA wB) (hd : DecB wB) : ∃ T, Tup wA T := by
  have hdec : ∀ {r : Nat}, r < 6 → f_Sc_isDeclared wA (r : Int) = some 1 := fun hr => isdecl h0 (by omega) (hd.pos hr)
  have hp3 : ∀ {r : Nat}, r < 6 → 1 ≤ wA 3 r := fun {r} hr => by rw [(num_AB h0).2.2.2.2.2 r (by omega)]; exact hd.pos hr
  obtain ⟨nF, m, d, now, top, L, g, hI⟩ := h0
  obtain ⟨i1, i2, i3, i4, i5, i6, i7, i8, i9, i10, i11⟩ := id hI
  obtain ⟨N, ρ, c, Lc, n, ρ', c', a1, a2, a3, a4, -⟩ := i9 now i6.2.2
  have hAt : f_Dm_present wA = some (g now) := present_n i8 i6.2.2 i6.1
  have hkd := kd_ref i8 (k := now) (by omega)
  have h48 := a1.2.1
  refine ⟨fun r => (Lc r).map c, fun r hr => ?_, ?_, fun r hr => ?_, fun r hr p hp => ?_, fun r hr k hk => ?_⟩
  · exact List.pairwise_map.mpr (chain_lt i1.1 a1 a2 (by omega) (hp3 hr))
  · simp only [List.length_map]
    have l0 := len_cnt a1 (r := 0) (by omega)
    have l1 := len_cnt a1 (r := 1) (by omega)
    have l2 := len_cnt a1 (r := 2) (by omega)
    have l3 := len_cnt a1 (r := 3) (by omega)
    have l4 := len_cnt a1 (r := 4) (by omega)
    have l5 := len_cnt a1 (r := 5) (by omega)
    have := sum6 (ρ := ρ) N
    omega
  · simp only [List.length_map]
    unfold f_Dm_size
    rw [hdec hr, bnd_s, if_neg z10, hAt, bnd_s, gd_t hkd, tuplesOf_n a1 (by omega), bnd_s]
  · simp only [List.length_map] at hp
    have hlen := a1.len (r := r) (by omega)
    have hmem := (a1.2.2.2.1 r _ (by omega)).mp (List.getElem_mem hp)
    have hslot := a1.2.2.2.2.1 _ hmem.1
    simp only [List.getElem_map]
    refine ⟨?_, hslot.2.2.1, ?_⟩
    · rcases slotAt_n (x := (p : Int)) a1 (show r < 10 by omega) with ⟨p', e, hp', hsl⟩ | ⟨hno, -⟩
      · have e : p = p' := by omega
        subst e
        unfold f_Dm_at f_Dm_at_24
        rw [hdec hr, bnd_s, if_neg z10, hAt, bnd_s, gd_t hkd, hsl, bnd_s, if_neg (by omega), bnd_s, gd_t hkd, codeOf_n (by omega), bnd_s, hslot.2.1]
      · exact absurd hp (Nat.not_lt.mpr (hno p rfl))
    · obtain ⟨v, hv, qv⟩ := isInA_n (x := ((clm (c (Lc r)[p]) 0 : Nat) : Int)) (y := ((clm (c (Lc r)[p]) 1 : Nat) : Int)) (z := ((clm (c (Lc r)[p]) 2 : Nat) : Int)) i1.1 a1 a2 (show r < 10 by omega) (hp3 hr)
      have hin : Hs (AM N ρ c) (r : Int) ((clm (c (Lc r)[p]) 0 : Nat) : Int) ((clm (c (Lc r)[p]) 1 : Nat) : Int) ((clm (c (Lc r)[p]) 2 : Nat) : Int) := by
        refine ⟨c (Lc r)[p], ⟨_, hmem.1, by rw [hmem.2], rfl⟩, fun j hj => ?_⟩
        have : j = 0 ∨ j = 1 ∨ j = 2 := by omega
        rcases this with rfl | rfl | rfl <;> rfl
      have hv1 : v = 1 := by
        rcases qv with ⟨z, -⟩ | ⟨-, z⟩
        · exact z
        · exact absurd hin z
      subst hv1
      unfold f_Dm_holds
      rw [hdec hr, bnd_s, if_neg z10, hAt, bnd_s, gd_t hkd, hv, bnd_s, gd_t (Or.inr rfl)]
  · simp only [List.length_map] at hk
    rcases slotAt_n (x := k) a1 (show r < 10 by omega) with ⟨p', e, hp', hsl⟩ | ⟨-, hsl⟩
    · omega
    · unfold f_Dm_at f_Dm_at_24
      rw [hdec hr, bnd_s, if_neg z10, hAt, bnd_s, gd_t hkd, hsl, bnd_s, if_pos rfl]
/-- any hour's model is the one found anew -/
theorem hour_anew {wA wB : World} (h0 : II wA wB) {r : Nat} {x y z : Int} (hr : r < 10) (hdr : 1 ≤ wB 3 r) {h : Nat} (hh : h < 4) : ∃ v w', f_Dm_holdsAt wA (r : Int) x y z (h : Int) = some (wA, 0, v) ∧ f_Dm_holdsAnew wA (r : Int) x y z (h : Int) = some (w', 0, v) ∧ (wA 1 12 = (h : Int) → f_Dm_holds wA (r : Int) x y z = some (wA, 0, v)) ∧ (v = 0 ∨ v = 1) := by
  have hdec : f_Sc_isDeclared wA (r : Int) = some 1 := isdecl h0 hr hdr
  have hd : 1 ≤ wA 3 r := by rw [(num_AB h0).2.2.2.2.2 r hr]; exact hdr
  obtain ⟨nF, m, d, now, top, L, g, hI⟩ := h0
  obtain ⟨i1, i2, i3, i4, i5, i6, i7, i8, i9, i10, i11⟩ := id hI
  obtain ⟨⟨N0, ρ0, c0, Lc0, p1, p2, p3, p4, -⟩, n, ρ', c', b1, b2, b3, b4⟩ := (i9 h hh).A
  obtain ⟨w', N, ρ, c, Lc, a1, a2, a3, a4, a5⟩ := trialA (hour := (h : Int)) (wo := 0) (x4 := 1) hI.low.S i10
  have hL : Least (SA wA) (lvf L) (FFA nF wA (h : Int) 0) (RrA m wA) (AM N ρ c) := by
    rcases a5 with ⟨-, z⟩ | ⟨-, hO⟩
    · exact z
    · exact absurd (over_ba hI.low.S b3 b4 hO) (fun z => z)
  have hs := least_uni i1.1.D hL p4
  have c98 : ∀ c, c < 98 → w' c = wA c := fun c hc => a2.1 c (Or.inl hc)
  have hS' : WfS w' := WfS_congr (fun c a b k => by rw [c98 c (by omega)]) i1.1
  obtain ⟨v, hv, qv⟩ := isInA_n (x := x) (y := y) (z := z) i1.1 p1 p2 hr hd
  obtain ⟨u, hu, qu⟩ := isInA_n (x := x) (y := y) (z := z) hS' a3 a4 hr (by rw [c98 3 (by omega)]; exact hd)
  have e : u = v := by
    rcases qv with ⟨e1, q1⟩ | ⟨e1, q1⟩
    · rcases qu with ⟨e2, q2⟩ | ⟨e2, q2⟩
      · omega
      · exact absurd ((hs_same hs).mpr q1) q2
    · rcases qu with ⟨e2, q2⟩ | ⟨e2, q2⟩
      · exact absurd ((hs_same hs).mp q2) q1
      · omega
  have h01 : v = 0 ∨ v = 1 := by
    rcases qv with z | z
    · exact Or.inr z.1
    · exact Or.inl z.1
  subst e
  refine ⟨u, w', ?_, ?_, fun he => ?_, h01⟩
  · unfold f_Dm_holdsAt
    rw [hdec, bnd_s, if_neg z10, if_neg (by omega), if_pos (by omega), modelOf_n i8 hh, bnd_s, gd_t (kd_ref i8 (by omega)), hv, bnd_s, gd_t h01]
  · unfold f_Dm_holdsAnew
    rw [hdec, bnd_s, if_neg z10, if_neg (by omega), if_pos (by omega), a1, bnd_s, hu, bnd_s, gd_t h01]
  · unfold f_Dm_holds
    rw [hdec, bnd_s, if_neg z10, present_n i8 hh he, bnd_s, gd_t (kd_ref i8 (by omega)), hv, bnd_s, gd_t h01]
theorem str_rng {wA wB : World} (h0 : II wA wB) {r : Nat} (hr : r < 10) (hdr : 1 ≤ wB 3 r) : ∃ v : Nat, v < 10 ∧ f_Dm_stratum wA (r : Int) = some (wA, 0, (v : Int)) := by
  have hdec : f_Sc_isDeclared wA (r : Int) = some 1 := isdecl h0 hr hdr
  obtain ⟨nF, m, d, now, top, L, g, hI⟩ := h0
  obtain ⟨i1, i2, i3, i4, i5, i6, i7, i8, -⟩ := hI
  have h1 := i7.1.2.2.1 r hr
  have h2 := i7.2.2.1
  refine ⟨L r, by omega, ?_⟩
  unfold f_Dm_stratum
  rw [hdec, bnd_s, if_neg z10, levelOf_n hr, bnd_s, i7.1.1 r hr]
theorem needed_loopF {nF m d now top r : Nat} {L g : Nat → Nat} {wA wB : World} {x2 x3 x4 : Int} (hI : Inv nF m d now top L g wA wB) (hr : r < 10) (hd : 1 ≤ wA 3 r) : ∀ (j k : Nat) (w u : World) (a : Nat), k + j = nF → QAr wA w → QBr wB u → u 1 0 = wB 1 0 → a < 2 ^ k →
    ∃ w' u' x, f_Dm_needed_42 w (r : Int) x2 x3 x4 (a : Int) 1 (k : Int) = some (w', 0, x) ∧ f_Re_needed_32 u (r : Int) x2 x3 x4 (a : Int) (k : Int) = some (u', x) ∧ QAr wA w' ∧ QBr wB u' ∧ u' 1 0 = wB 1 0 ∧ ∃ b : Nat, x = (b : Int) ∧ b < 2 ^ nF := by
  intro j
  induction j with
  | zero =>
    intro k w u a hk hA hB hz ha
    have hJ := Inv_q hA hB hI
    have n7A : w 7 0 = (nF : Int) := hJ.2.1.1.1
    have n7B : u 1 7 = (nF : Int) := hJ.2.1.2.1.1
    refine ⟨w, u, (a : Int), ?_, ?_, hA, hB, hz, a, rfl, by rw [← hk]; exact ha⟩
    · unfold f_Dm_needed_42
      refine lp_out ?_
      show f_Dm_needed_42B w (r : Int) x2 x3 x4 (a : Int) 1 (k : Int) = _
      unfold f_Dm_needed_42B
      rw [if_neg z10, n7A, if_pos (by omega)]
    · unfold f_Re_needed_32
      refine lp_out ?_
      show f_Re_needed_32B u (r : Int) x2 x3 x4 (a : Int) (k : Int) = _
      unfold f_Re_needed_32B
      rw [n7B, if_pos (by omega)]
  | succ j ih =>
    intro k w u a hk hA hB hz ha
    have hJ := Inv_q hA hB hI
    have n7A : w 7 0 = (nF : Int) := hJ.2.1.1.1
    have n7B : u 1 7 = (nF : Int) := hJ.2.1.2.1.1
    have h24 : nF ≤ 24 := hJ.2.1.1.2.1
    have hk24 : k < 24 := by omega
    have hp := pow24 k hk24
    have e146 : ∀ (w : World) (a : Int), f_Dm_needed_146 w (r : Int) x2 x3 x4 a 1 (k : Int) = some (Sum.inl (w, a, ((k + 1 : Nat) : Int))) := fun w a => by
      unfold f_Dm_needed_146
      rw [bl_s, wr_of (x := (k : Int) + 1) ⟨by omega, by omega⟩]
      rfl
    have e93 : ∀ (w : World) (a : Int), f_Re_needed_93 w (r : Int) x2 x3 x4 a (k : Int) = some (Sum.inl (w, a, ((k + 1 : Nat) : Int))) := fun w a => by
      unfold f_Re_needed_93
      rw [bl_s, wr_of (x := (k : Int) + 1) ⟨by omega, by omega⟩]
      rfl
    have ha' : a < 2 ^ (k + 1) := by rw [Nat.pow_succ]; omega
    have go : ∀ (w1 u1 : World) (a1 : Nat), a1 < 2 ^ (k + 1) → QAr wA w1 → QBr wB u1 → u1 1 0 = wB 1 0 → f_Dm_needed_42B w (r : Int) x2 x3 x4 (a : Int) 1 (k : Int) = some (Sum.inl (w1, (a1 : Int), ((k + 1 : Nat) : Int))) → f_Re_needed_32B u (r : Int) x2 x3 x4 (a : Int) (k : Int) = some (Sum.inl (u1, (a1 : Int), ((k + 1 : Nat) : Int))) → ∃ w' u' x, f_Dm_needed_42 w (r : Int) x2 x3 x4 (a : Int) 1 (k : Int) = some (w', 0, x) ∧ f_Re_needed_32 u (r : Int) x2 x3 x4 (a : Int) (k : Int) = some (u', x) ∧ QAr wA w' ∧ QBr wB u' ∧ u' 1 0 = wB 1 0 ∧ ∃ b : Nat, x = (b : Int) ∧ b < 2 ^ nF := fun w1 u1 a1 h1 h2 h3 h4 s1 s2 => by
      obtain ⟨w', u', x, t1, t2, t3, t4⟩ := ih (k + 1) w1 u1 a1 (by omega) h2 h3 h4 h1
      refine ⟨w', u', x, ?_, ?_, t3, t4⟩
      · unfold f_Dm_needed_42 at t1 ⊢
        rw [lp_step (F := fun z : (World × Int × Int) => f_Dm_needed_42B z.1 (r : Int) x2 x3 x4 z.2.1 1 z.2.2) s1]
        exact t1
      · unfold f_Re_needed_32 at t2 ⊢
        rw [lp_step (F := fun z : (World × Int × Int) => f_Re_needed_32B z.1 (r : Int) x2 x3 x4 z.2.1 z.2.2) s2]
        exact t2
    obtain ⟨v, v1, v2, v3⟩ := holds_both hJ (f := k) (by omega)
    by_cases hv : v = 0
    · refine go w u a ha' hA hB hz ?_ ?_
      · unfold f_Dm_needed_42B
        rw [if_neg z10, n7A, if_neg (by omega), v1, bnd_s, if_pos hv, e146]
      · unfold f_Re_needed_32B
        rw [n7B, if_neg (by omega), v2, bnd_s, if_pos hv, e93]
    · obtain ⟨w1, u1, tv, N, ρ, c, Lc, n, ρ', c', p1, p2, p3, p4, p5, p6, p7, p8, p9⟩ := trial_both (hour := (now : Int)) (wo := ((2 ^ k : Nat) : Int)) (x4 := 0) hJ.low.S hJ.2.2.2.2.2.2.2.2.2.1 hJ.2.2.2.2.2.2.2.2.2.2
      have hA1 := hA.trans p3
      have hB1 := hB.trans p4.1
      have hz1 := p4.2.trans hz
      have hJ1 := Inv_q hA1 hB1 hI
      have j1 := hJ1.1
      have n12 : w 1 12 = (now : Int) := hJ.2.2.2.2.2.1.1
      have n11 : u 1 1 = (now : Int) := hJ.2.2.2.2.2.1.2.1
      have hor0 : ior (a : Int) 0 = (a : Int) := by
        have := ior_n (a := a) (b := 0) (by omega) (by omega)
        rw [Nat.or_zero] at this
        exact this
      have hbodyA : f_Dm_needed_42B w (r : Int) x2 x3 x4 (a : Int) 1 (k : Int) = if w1 98 2 = 0 then (bnd (f_Dm_isIn w1 98 (r : Int) x2 x3 x4) fun v20 => if v20 = 0 then (f_Dm_needed_126 w1 (r : Int) x2 x3 x4 (a : Int) 1 (k : Int) 0) else (f_Dm_needed_121 w1 (r : Int) x2 x3 x4 (a : Int) 1 (k : Int))) else (f_Dm_needed_121 w1 (r : Int) x2 x3 x4 (a : Int) 1 (k : Int)) := by
        unfold f_Dm_needed_42B
        rw [if_neg z10, n7A, if_neg (by omega), v1, bnd_s, if_neg hv, n12, bit_k hk24, p1, bnd_s]
      have hbodyB : f_Re_needed_32B u (r : Int) x2 x3 x4 (a : Int) (k : Int) = if tv = 0 then (f_Re_needed_93 u1 (r : Int) x2 x3 x4 (a : Int) (k : Int)) else (bnd (f_Re_hasTuple u1 4 (r : Int) x2 x3 x4) fun v17 => if v17 = 0 then (bl (ior (a : Int) ((2 ^ k : Nat) : Int)) fun n21 => f_Re_needed_93 u1 (r : Int) x2 x3 x4 n21 (k : Int)) else (f_Re_needed_93 u1 (r : Int) x2 x3 x4 (a : Int) (k : Int))) := by
        unfold f_Re_needed_32B
        rw [n7B, if_neg (by omega), v2, bnd_s, if_neg hv, n11, bit_k hk24, p2, bnd_s]
      have e121 : f_Dm_needed_121 w1 (r : Int) x2 x3 x4 (a : Int) 1 (k : Int) = some (Sum.inl (w1, (a : Int), ((k + 1 : Nat) : Int))) := by
        unfold f_Dm_needed_121 f_Dm_needed_126 f_Dm_needed_143
        rw [if_neg z10, hor0, bl_s, e146]
      rcases p9 with ⟨q1, q2, -, q3⟩ | ⟨q1, q2⟩
      · obtain ⟨y, y1, y2, y3⟩ := tup_same (nA := 0) (nB := 0) (x := x2) (y := x3) (z := x4) j1.1 j1.T ((j1.2 r hr).1) p5 p6 p7 p8 hr (by rw [hA1.1 3 (Or.inl (by omega))]; exact hd) q3
        have y2 : f_Re_hasTuple u1 4 (r : Int) x2 x3 x4 = some y := y2
        by_cases hy : y = 0
        · have hlt : a ||| 2 ^ k < 2 ^ (k + 1) := Nat.or_lt_two_pow ha' (Nat.pow_lt_pow_right (by omega) (by omega))
          refine go w1 u1 (a ||| 2 ^ k) hlt hA1 hB1 hz1 ?_ ?_
          · rw [hbodyA, if_pos q2, y1, bnd_s, if_pos hy]
            unfold f_Dm_needed_126 f_Dm_needed_143
            rw [if_pos rfl, bit_k hk24, ior_n (by omega) (by omega), bl_s, e146]
          · rw [hbodyB, if_neg (by omega), y2, bnd_s, if_pos hy, ior_n (by omega) (by omega), bl_s, e93]
        · refine go w1 u1 a ha' hA1 hB1 hz1 ?_ ?_
          · rw [hbodyA, if_pos q2, y1, bnd_s, if_neg hy, e121]
          · rw [hbodyB, if_neg (by omega), y2, bnd_s, if_neg hy, e93]
      · refine go w1 u1 a ha' hA1 hB1 hz1 ?_ ?_
        · rw [hbodyA, if_neg (by omega), e121]
        · rw [hbodyB, if_pos q1, e93]
theorem need_rng {wA wB : World} (h0 : II wA wB) {r : Nat} {x y z : Int} (hr : r < 10) (hdr : 1 ≤ wB 3 r) : ∃ (w' : World) (b nF : Nat), f_Dm_needed wA (r : Int) x y z = some (w', 0, (b : Int)) ∧ wB 1 7 = (nF : Int) ∧ nF ≤ 24 ∧ b < 2 ^ nF ∧ (f_Dm_holds wA (r : Int) x y z = some (wA, 0, 0) → b = 0) := by
  have hdec : f_Sc_isDeclared wA (r : Int) = some 1 := isdecl h0 hr hdr
  have hd : 1 ≤ wA 3 r := by rw [(num_AB h0).2.2.2.2.2 r hr]; exact hdr
  obtain ⟨nF, m, d, now, top, L, g, hI⟩ := h0
  obtain ⟨i1, i2, i3, i4, i5, i6, i7, i8, i9, i10, i11⟩ := id hI
  obtain ⟨v, h1, h2, h3⟩ := isin_both (wB' := up wB 1 0 0) (x := x) (y := y) (z := z) hI i6.2.2 hr hd (fun c hc => up10 hc)
  have hh : f_Dm_holds wA (r : Int) x y z = some (wA, 0, v) := by
    unfold f_Dm_holds
    rw [hdec, bnd_s, if_neg z10, present_n i8 i6.2.2 i6.1, bnd_s, gd_t (kd_ref i8 (by omega)), h1, bnd_s, gd_t h3]
  have hA0 : f_Dm_needed wA (r : Int) x y z = f_Dm_needed_42 wA (r : Int) x y z 0 v 0 := by
    unfold f_Dm_needed
    rw [hdec, bnd_s, if_neg z10, present_n i8 i6.2.2 i6.1, bnd_s, gd_t (kd_ref i8 (by omega)), h1, bnd_s]
  have h7 : wB 1 7 = (nF : Int) := i2.2.1.1
  rcases h3 with q | q
  · exact ⟨wA, 0, nF, by rw [hA0, q]; exact need_no, h7, i2.1.2.1, Nat.pow_pos (by omega), fun _ => rfl⟩
  · have hI0 : Inv nF m d now top L g wA (up wB 1 0 0) := Inv_up10 hI
    obtain ⟨w', u', x', t1, t2, t3, t4, t5, b, rfl, hb⟩ := needed_loopF (x2 := x) (x3 := y) (x4 := z) hI0 hr hd nF 0 wA (up wB 1 0 0) 0 (by omega) (QAr.refl i10) (QBr.refl hI0.2.2.2.2.2.2.2.2.2.2) rfl (by decide)
    refine ⟨w', b, nF, by rw [hA0, q]; exact t1, h7, i2.1.2.1, hb, fun e => ?_⟩
    rw [hh, q] at e
    cases e
theorem cheap_bothC {nF m d now top : Nat} {L g : Nat → Nat} {wA wB : World} (hI : Inv nF m d now top L g wA wB) : ∃ (w' u' : World) (N n : Nat) (ρ c ρ' c' : Nat → Nat) (Lc : Nat → List Nat) (C : Int → Nat → Nat), f_Dm_findCosts wA = some w' ∧ f_Re_findCosts wB = some u' ∧ FrC wA w' ∧ Inv nF m d now top L g w' u' ∧ QBr wB u' ∧ u' 1 0 = wB 1 0 ∧ AMod w' (g now) N ρ c Lc ∧ VCs w' N ρ c ∧ BMod u' now n ρ' c' ∧ VCs u' n ρ' c' ∧ n ≤ 48 ∧ (∀ r k, AM N ρ c r k ↔ AM n ρ' c' r k) ∧ (∀ s, s < N → w' 151 s = ((C (ρ s : Int) (c s) : Nat) : Int)) ∧ (∀ s, s < n → u' 26 s = ((C (ρ' s : Int) (c' s) : Nat) : Int)) ∧ CostP (SA wA) (FCA nF wA (now : Int)) (RrA m wA) (AM N ρ c) C := by
  obtain ⟨i1, i2, i3, i4, i5, i6, i7, i8, i9, i10, i11⟩ := id hI
  obtain ⟨⟨N, ρ, c, Lc, a1, a2, a3, a4, a9⟩, n, ρ', c', b1, b2, b3, b4⟩ := (i9 now i6.2.2).A
  have hs := least_both hI.low.S a4 b4
  have hkt := kd_ref i8 (k := now) (by omega)
  have hm12 : m ≤ 12 := i3.1.2.2.1
  obtain ⟨C, hC⟩ := cost_ex (SA wA) (FCA nF wA (now : Int)) (RrA m wA) (AM N ρ c)
  have hCB : CostP (SA wB) (FCB nF wB (now : Int)) (RrB m wB) (AM n ρ' c') C := by
    rw [i1.SA]
    exact CostP_same (FC_both i2) i3.RS.1 i3.RS.2 hs hC
  have hcb : CsB wB nF m now n L ρ' c' C := by
    refine ⟨⟨b1, b3, b2, i1.T⟩, ⟨i3.2.1, fun i hi => ?_⟩, ⟨i6.2.1, i6.2.2⟩, b4, hCB, i2.2.1, fun f hf => ?_⟩
    · obtain ⟨k1, k2, k3, k4, k5, k6⟩ := i3.2.2 i hi
      refine ⟨k1.T.safeL.mp k4, fun cc hcc hneg => ?_⟩
      rw [k1.2.2.2 cc hcc] at hneg ⊢
      obtain ⟨p, c1, hp, hc1, hf, he⟩ := k5 cc hcc hneg
      obtain ⟨q1, -, q3⟩ := k1.2.1 p hp
      exact ⟨p, c1, by rw [k1.1]; exact hp, hc1, by rw [q1]; exact hf, by rw [q3 c1 hc1]; exact he⟩
    · obtain ⟨-, -, ⟨c1, c2, c3⟩, -⟩ := i2.2.2.1 f hf
      rw [c1]
      exact ⟨c2, c3⟩
  have hca : CsA wA nF m now (g now) N L ρ c Lc C := by
    refine ⟨⟨a1, a2, i1.1⟩, ⟨i3.1, fun i hi => ?_⟩, ⟨present_n i8 i6.2.2 i6.1, hkt, i6.1⟩, a4, hC, i2.1, fun f hf => ?_⟩
    · obtain ⟨k1, k2, k3, k4, k5, k6⟩ := i3.2.2 i hi
      exact ⟨k4, k5, k6⟩
    · obtain ⟨-, -, ⟨c1, c2, c3⟩, -⟩ := i2.2.2.1 f hf
      exact ⟨c2, c3⟩
  obtain ⟨u', q1, q2, q3, q4⟩ := findCostsB_n hcb i11
  have hQ := q2.Q q3
  have hI1 := Inv_q (wA' := wA) (wB' := u') (QAr.refl i10) hQ hI
  have hz : u' 1 0 = wB 1 0 := q2.f (by decide) (by decide)
  have b1' : BMod u' now n ρ' c' := BMod_congr (fun k hk => q2.cell (by omega) (by omega)) b1
  have b2' : VCs u' n ρ' c' := VCs_3 (q2.cell (by omega) (by omega)) b2
  by_cases h0 : wA 150 0 = 0
  · obtain ⟨w', p1, p2, p3, p4⟩ := findCostsA_n hca i10 h0
    have h98 : ∀ c, c < 98 → w' c = wA c := fun c hc => p2 c (by omega) (by omega) (by omega)
    have h6 := kd6 hkt
    have h7 := kd6_hi hkt
    have hn : HAc nF m L w' (g now) now now := by
      refine ⟨N, ρ, c, Lc, p2.M hkt a1, VCs_3 (h98 3 (by omega)) a2, by rw [p2 (g now) (by omega) (by omega) (by omega)]; exact a3, ?_, fun _ _ => ⟨C, ?_, p4⟩⟩
      · rw [p2.SA, FFA_congr h98, RrA_c hm12 h98]
        exact a4
      · rw [p2.SA, FCA_c h98, RrA_c hm12 h98]
        exact hC
    exact ⟨w', u', N, n, ρ, c, ρ', c', Lc, C, p1, q1, p2, Inv_cost hI1 p2 p3 hn, hQ, hz, p2.M hkt a1, VCs_3 (h98 3 (by omega)) a2, b1', b2', b3, hs, p4, q4, hC⟩
  · obtain ⟨C0, g1, g2⟩ := a9 rfl h0
    refine ⟨wA, u', N, n, ρ, c, ρ', c', Lc, C, ?_, q1, FrC.refl, hI1, hQ, hz, a1, a2, b1', b2', b3, hs, fun s hs' => ?_, q4, hC⟩
    · unfold f_Dm_findCosts
      rw [if_neg h0]
    · rw [g2 s hs', cost_uni g1 hC ⟨s, hs', rfl, rfl⟩]
theorem cost_pos {nF m d now top : Nat} {L g : Nat → Nat} {wA wB : World} {M : MM} {C : Int → Nat → Nat} (hI : Inv nF m d now top L g wA wB) (hC : CostP (SA wA) (FCA nF wA (now : Int)) (RrA m wA) M C) {r : Int} {k : Nat} (h : M r k) : 0 < C r k ∧ C r k ≤ 1000000 := by
  obtain ⟨i1, i2, -⟩ := hI
  refine ⟨?_, hC.1 r k h⟩
  rcases hC.2.2.2 r k h with e | ⟨k', v, ⟨f, hf, -, -, -, e1⟩, -, e⟩ | ⟨R, σ, -, -, -, -, e⟩
  · omega
  · have := (i2.2.2.1 f hf).2.2.1.2.1
    omega
  · omega
theorem sc_cheapest : ∀ {wA wB : World}, II wA wB → ∀ x1 x2 x3 x4 : Int, R32 x1 → R32 x2 → R32 x3 → R32 x4 → ∃ (oA : World × Nat × Int) (oB : World × Int), f_Dm_cheapest wA x1 x2 x3 x4 = some oA ∧ f_Re_cheapest wB x1 x2 x3 x4 = some oB ∧ f_Re_thrown oB.1 = some (hmL 1 0 0 oA.2.1) ∧ (oA.2.1 = 0 ∨ oA.2.1 = 1) ∧ (oA.2.1 = 0 → oA.2.2 = oB.2) ∧ II oA.1 oB.1 ∧ (oA.2.1 = 0 → (f_Dm_holds wA x1 x2 x3 x4 = some (wA, 0, 1) ∧ 0 < oA.2.2 ∧ oA.2.2 ≤ 1000000) ∨ (f_Dm_holds wA x1 x2 x3 x4 = some (wA, 0, 0) ∧ oA.2.2 = -1)) := by
  intro wA wB hII x1 x2 x3 x4 _ _ _ _
  obtain ⟨nF, m, d, now, top, L, g, hI⟩ := id hII
  obtain ⟨i1, i2, i3, i4, i5, i6, i7, i8, i9, i10, i11⟩ := id hI
  rcases decl_both i1 x1 with ⟨r, rfl, hr, hd, hA, hB⟩ | ⟨-, hA, hB⟩
  · have hI0 : Inv nF m d now top L g wA (up wB 1 0 0) := Inv_up10 hI
    obtain ⟨j1, j2, j3, j4, j5, j6, j7, j8, j9, j10, j11⟩ := id hI0
    obtain ⟨w', u', N, n, ρ, c, ρ', c', Lc, C, p1, p2, p3, p4, p5, p6, p7, p8, p9, p10, p11, p12, p13, p14, p15⟩ := cheap_bothC hI0
    have hkt := kd_ref i8 (k := now) (by omega)
    obtain ⟨k1, k2, k3, k4, k5, k6, k7, k8, k9, k10, k11⟩ := id p4
    obtain ⟨⟨N0, ρ0, c0, Lc0, a1, a2, a3, a4, -⟩, n0, ρ0', c0', b1, b2, b3, b4⟩ := (j9 now j6.2.2).A
    have hs0 := least_both hI0.low.S a4 b4
    have hdu : 1 ≤ up wB 1 0 0 3 r := by rw [(j1.2 r hr).1]; exact hd
    have hdw : 1 ≤ w' 3 r := by rw [p3 3 (by omega) (by omega) (by omega)]; exact hd
    have hdu' : 1 ≤ u' 3 r := by rw [(k1.2 r hr).1]; exact hdw
    have hkt' := kd6 hkt
    have hkt2 := kd6_hi hkt
    obtain ⟨vA, hvA, qA⟩ := isInA_n (x := x2) (y := x3) (z := x4) i1.1 a1 a2 hr hd
    obtain ⟨vB, hvB, qB⟩ := hasTuple_n (x := x2) (y := x3) (z := x4) j1.T b1 b2 hr hdu
    have hhold : f_Dm_holds wA (r : Int) x2 x3 x4 = some (wA, 0, vA) := by
      unfold f_Dm_holds
      rw [hA, bnd_s, if_neg z10, present_n i8 i6.2.2 i6.1, bnd_s, gd_t hkt, hvA, bnd_s, gd_t (by rcases qA with z | z; exact Or.inr z.1; exact Or.inl z.1)]
    have startA : f_Dm_cheapest wA (r : Int) x2 x3 x4 = if vA = 0 then (some (wA, 0, (-1))) else (bnd (f_Dm_packed x2 x3 x4) fun v22 => bnd (f_Mo_slotLike w' (g now) (r : Int) v22) fun v26 => bnd (f_Co_costOf w' v26) fun v29 => some (w', 0, v29)) := by
      unfold f_Dm_cheapest
      rw [hA, bnd_s, if_neg z10, present_n i8 i6.2.2 i6.1, bnd_s, gd_t hkt, hvA, bnd_s, p1, bnd_s, present_n k8 k6.2.2 k6.1, bnd_s]
      by_cases q : vA = 0
      · rw [if_pos q, if_pos q]
      · rw [if_neg q, if_neg q]
        refine congrArg (bnd _) (funext fun v22 => ?_)
        rw [gd_t hkt]
    have startB : f_Re_cheapest wB (r : Int) x2 x3 x4 = if vB = 0 then (some (up wB 1 0 0, (-1))) else (bnd (f_Re_place u' (now : Int) (r : Int) x2 x3 x4) fun v17 => gd (0 ≤ v17 ∧ v17 < 50) (some (u', u' 26 v17.toNat))) := by
      have e : up wB 1 0 0 1 1 = (now : Int) := j6.2.1
      unfold f_Re_cheapest
      rw [noRel_n.1 hB, bnd_s, if_pos rfl]
      show bnd (f_Re_hasTuple (up wB 1 0 0) (up wB 1 0 0 1 1) (r : Int) x2 x3 x4) _ = _
      rw [e, hvB, bnd_s]
      show (if vB = 0 then _ else bnd (f_Re_findCosts (up wB 1 0 0)) _) = _
      rw [p2, bnd_s, k6.2.1]
    by_cases hin : Hs (AM N0 ρ0 c0) (r : Int) x2 x3 x4
    · have hvA1 : vA ≠ 0 := by
        rcases qA with ⟨z, -⟩ | ⟨-, z⟩
        · omega
        · exact absurd hin z
      have hvB1 : vB ≠ 0 := by
        rcases qB with ⟨z, -⟩ | ⟨-, z⟩
        · omega
        · exact absurd ((hs_same hs0).mp hin) z
      obtain ⟨k, hkM, hkj⟩ := hin
      -- the models of now stay as they were
      have hAw : AMod w' (g now) N0 ρ0 c0 Lc0 := p3.M hkt a1
      have hkM' : AM N ρ c (r : Int) k := by
        obtain ⟨⟨N2, ρ2, c2, Lc2, e1, e2, e3, e4, -⟩, n2, ρ2', c2', f1, f2, f3, f4⟩ := (k9 now k6.2.2).A
        have h98 : ∀ c, c < 98 → w' c = wA c := fun c hc => p3 c (by omega) (by omega) (by omega)
        have hm12 : m ≤ 12 := i3.1.2.2.1
        have hAMN : ∀ s, s < N0 ↔ s < N := fun s => by
          have h1 := hAw.1
          have h2 := p7.1
          omega
        obtain ⟨s, hs, hρ, hc⟩ := hkM
        have hsN := (hAMN s).mp hs
        have g1 := hAw.2.2.2.2.1 s hs
        have g2 := p7.2.2.2.2.1 s hsN
        have hcc : c s = c0 s := by have := g1.2.1; have := g2.2.1; omega
        have hseg : ∀ r, r < 10 → ∀ l l' : List Nat, ∀ a : Int, seg (w' (g now + 2)) a l → seg (w' (g now + 2)) a l' → l = l' := fun r _ => by
          intro l
          induction l with
          | nil =>
            intro l' a h1 h2
            cases l' with
            | nil => rfl
            | cons b l' =>
              have h1 : a = -1 := h1
              have h2 := h2.1
              omega
          | cons b l ih =>
            intro l' a h1 h2
            cases l' with
            | nil =>
              have h2 : a = -1 := h2
              have h1 := h1.1
              omega
            | cons b' l' =>
              have e : b' = b := by have := h1.1; have := h2.1; omega
              subst e
              rw [ih l' _ h1.2 h2.2]
        have hL1 := hseg r hr _ _ _ (hAw.2.2.1 r hr) (p7.2.2.1 r hr)
        have hm1 := (hAw.2.2.2.1 r s hr).mpr ⟨hs, by omega⟩
        rw [hL1] at hm1
        have := (p7.2.2.2.1 r s hr).mp hm1
        exact ⟨s, this.1, by omega, by rw [hcc, hc]⟩
      obtain ⟨sA, hsA, hρA, hcA⟩ := id hkM'
      obtain ⟨s, hsn, hρ, hcs⟩ := (p12 _ _).mp hkM'
      have hρA : ρ sA = r := by omega
      have hρ : ρ' s = r := by omega
      have hk : k < 2097152 := by have := (p7.2.2.2.2.1 sA hsA).2.2.1; omega
      have hVk : Vc u' r k := by have := p10 s hsn; rw [hρ, hcs] at this; exact this
      have e2 : x2 = ((clm k 0 : Nat) : Int) := (hkj 0 (by omega)).symm
      have e3 : x3 = ((clm k 1 : Nat) : Int) := (hkj 1 (by omega)).symm
      have e4 : x4 = ((clm k 2 : Nat) : Int) := (hkj 2 (by omega)).symm
      have hpk : f_Dm_packed x2 x3 x4 = some (k : Int) := by
        rw [e2, e3, e4, packed_n clm_lt clm_lt clm_lt, clm_pk hk]
      obtain ⟨va, hva, hva2⟩ := slotA_eq (k := k) (m := k) k1.1 p7 hr hdw hk hsA hρA (by rw [hcA])
      have hva3 := hva2.mpr rfl
      obtain ⟨vb, hvb, hvb2⟩ := placeB_eq (k := k) (m := k) k1.T p9 p10 hr hdu' hk hVk hsn hρ (by rw [hcs])
      have hvb3 := hvb2.mpr rfl
      have hcA2 : f_Co_costOf w' (sA : Int) = some ((C (r : Int) k : Nat) : Int) := by
        have hN := p7.2.1
        unfold f_Co_costOf
        rw [if_neg (by omega), if_neg (by omega), gd_t ⟨by omega, by omega⟩, Int.toNat_natCast, p13 sA hsA, hρA, hcA]
      refine ⟨(w', 0, ((C (r : Int) k : Nat) : Int)), (u', ((C (r : Int) k : Nat) : Int)), ?_, ?_, ?_, Or.inl rfl, fun _ => rfl, ⟨nF, m, d, now, top, L, g, p4⟩, fun _ => Or.inl ⟨by rw [hhold]; rcases qA with z | z; rw [z.1]; exact absurd z.1 hvA1, Int.natCast_pos.mpr (cost_pos hI0 p15 hkM').1, Int.ofNat_le.mpr (cost_pos hI0 p15 hkM').2⟩⟩
      · rw [startA, if_neg hvA1, hpk, bnd_s, hva, bnd_s, hva3, hcA2, bnd_s]
      · rw [startB, if_neg hvB1, e2, e3, e4, hvb, bnd_s, hvb3, gd_t ⟨by omega, by omega⟩, Int.toNat_natCast, p14 s hsn, hρ, hcs]
      · unfold f_Re_thrown
        show some (u' 1 0) = _
        rw [p6]
        simp [up]
        rfl
    · have hvA0 : vA = 0 := by
        rcases qA with ⟨-, z⟩ | ⟨z, -⟩
        · exact absurd z hin
        · exact z
      have hvB0 : vB = 0 := by
        rcases qB with ⟨-, z⟩ | ⟨z, -⟩
        · exact absurd ((hs_same hs0).mpr z) hin
        · exact z
      refine ⟨(wA, 0, -1), (up wB 1 0 0, -1), ?_, ?_, thrown_n, Or.inl rfl, fun _ => rfl, II_up10 hII, fun _ => Or.inr ⟨by rw [hhold, hvA0], rfl⟩⟩
      · rw [startA, if_pos hvA0]
      · rw [startB, if_pos hvB0]
  · refine ⟨(wA, 1, 0), (up wB 1 0 1, 0), ?_, ?_, thrown_n, Or.inr rfl, fun e => n10 e, II_up10 hII, fun e => n10 e⟩
    · unfold f_Dm_cheapest
      rw [hA, bnd_s, if_pos rfl]
    · unfold f_Re_cheapest
      rw [noRel_n.2 hB, bnd_s]
      exact if_neg z10
