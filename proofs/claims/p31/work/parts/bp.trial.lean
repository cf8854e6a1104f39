/-! BOTH: trials; holdsAnew, needed -/
theorem tup_same {nA nB tA : Nat} {wA wB : World} {M N n r : Nat} {ρ c ρ' c' : Nat → Nat} {Lc : Nat → List Nat} {x y z : Int} (hS : WfS wA) (hT : WfT wB) (e3 : wB 3 r = wA 3 r) (a1 : AMod wA tA N ρ c Lc) (a2 : VCs wA N ρ c) (a5 : BMod wB M n ρ' c') (a6 : VCs wB n ρ' c') (hr : r < 10) (hd : 1 ≤ wA 3 r) (hs : ∀ r k, AM N ρ c r k ↔ AM n ρ' c' r k) : ∃ v, f_Dm_isIn wA tA (r : Int) x y z = some v ∧ f_Re_hasTuple wB (M : Int) (r : Int) x y z = some v ∧ (v = 0 ∨ v = 1) := by
  obtain ⟨v, hv, hv2⟩ := isInA_n (x := x) (y := y) (z := z) hS a1 a2 hr hd
  obtain ⟨u, hu, hu2⟩ := hasTuple_n (x := x) (y := y) (z := z) hT a5 a6 hr (by rw [e3]; exact hd)
  have e : v = u := by
    rcases hv2 with ⟨e1, q1⟩ | ⟨e1, q1⟩
    · rcases hu2 with ⟨e2, q2⟩ | ⟨e2, q2⟩
      · omega
      · exact absurd ((hs_same hs).mp q1) q2
    · rcases hu2 with ⟨e2, q2⟩ | ⟨e2, q2⟩
      · exact absurd ((hs_same hs).mpr q2) q1
      · omega
  exact ⟨v, hv, by rw [e]; exact hu, by rcases hv2 with z | z; exact Or.inr z.1; exact Or.inl z.1⟩
theorem least_both {nF m top N n : Nat} {L : Nat → Nat} {wA wB : World} {hour wo : Int} {ρ c ρ' c' : Nat → Nat} (hS : Stt nF m top L wA wB) (hA : Least (SA wA) (lvf L) (FFA nF wA hour wo) (RrA m wA) (AM N ρ c)) (hB : Least (SA wB) (lvf L) (FFB nF wB hour wo) (RrB m wB) (AM n ρ' c')) : ∀ r k, AM N ρ c r k ↔ AM n ρ' c' r k := by
  obtain ⟨i1, i2, i3, -⟩ := hS
  have hB2 : Least (SA wA) (lvf L) (FFA nF wA hour wo) (RrA m wA) (AM n ρ' c') := by
    have := i3.RS.symm.least (FF_least (fun r k => (i2.FF r k).symm) hB)
    rw [i1.SA] at this
    exact this
  exact least_uni i1.1.D hA hB2
theorem trialA {nF m top : Nat} {L : Nat → Nat} {wA wB : World} {hour wo x4 : Int} (hS : Stt nF m top L wA wB) (hV : VV (wA 104)) : ∃ w' N ρ c Lc, f_Mi_build wA 98 hour wo x4 = some w' ∧ QAr wA w' ∧ AMod w' 98 N ρ c Lc ∧ VCs w' N ρ c ∧ ((w' 98 2 = 0 ∧ Least (SA wA) (lvf L) (FFA nF wA hour wo) (RrA m wA) (AM N ρ c)) ∨ (w' 98 2 = 1 ∧ OvA nF m L wA hour wo)) := by
  obtain ⟨w', N, ρ, c, Lc, b1, b2, b3, b4, b5, b6⟩ := buildA1 (t := 98) (hour := hour) (wo := wo) (x4 := x4) hS.A hV (by decide +kernel)
  exact ⟨w', N, ρ, c, Lc, b1, ⟨fun c hc => b3 c (by omega) (by omega), b2⟩, b4, b5, b6⟩
theorem trial_both {nF m top : Nat} {L : Nat → Nat} {wA wB : World} {hour wo x4 : Int} (hS : Stt nF m top L wA wB) (hV : VV (wA 104)) (hVB : VB wB) : ∃ w' u' v N ρ c Lc n ρ' c', f_Mi_build wA 98 hour wo x4 = some w' ∧ f_Re_build wB 4 hour wo = some (u', v) ∧ QAr wA w' ∧ (QBr wB u' ∧ u' 1 0 = wB 1 0) ∧ AMod w' 98 N ρ c Lc ∧ VCs w' N ρ c ∧ BMod u' 4 n ρ' c' ∧ VCs u' n ρ' c' ∧ ((v = 1 ∧ w' 98 2 = 0 ∧ n ≤ 48 ∧ ∀ r k, AM N ρ c r k ↔ AM n ρ' c' r k) ∨ (v = 0 ∧ w' 98 2 = 1)) := by
  obtain ⟨w', N, ρ, c, Lc, a1, a2, a3, a4, a5⟩ := trialA (hour := hour) (wo := wo) (x4 := x4) hS hV
  obtain ⟨s1, s2, s3, s4, s5⟩ := hS.B
  obtain ⟨u', v, n, ρ', c', b1, b2, b3, b4, b5, b6⟩ := buildB_n (M := 4) (hour := hour) (wo := wo) (FF := FFB nF wB hour wo) (by omega) s1 hVB s2 s3 s4 (fun r k => Iff.rfl) s5
  have b1 : f_Re_build wB 4 hour wo = some (u', v) := b1
  have e : ∀ c, 2 ≤ c → c < 20 → u' c = wB c := fun c h1 h2 => b2.cell (by omega) (by omega)
  refine ⟨w', u', v, N, ρ, c, Lc, n, ρ', c', a1, b1, a2, ⟨b2.QB b5, b2.f (by omega) (by omega)⟩, a3, a4, b3, b4, ?_⟩
  rcases a5 with ⟨z, hL⟩ | ⟨z, hO⟩
  · rcases b6 with ⟨hv, hn, hLB⟩ | ⟨hv, hO⟩
    · exact Or.inl ⟨hv, z, hn, least_both hS hL hLB⟩
    · refine absurd (over_ab hS a3.2.1 hL ⟨n, ρ', c', 10, ?_, hO⟩) (fun z => z)
      have := BMod_OkM b3
      rw [SA_c5 (fun c _ _ => e c (by omega) (by omega))] at this
      exact this
  · rcases b6 with ⟨hv, hn, hLB⟩ | ⟨hv, -⟩
    · exact absurd (over_ba hS hn hLB hO) (fun z => z)
    · exact Or.inr ⟨hv, z⟩
theorem st_holdsAnew : St_holdsAnew II := by
  intro wA wB hII x1 x2 x3 x4 x5 _ _ _ _ _
  obtain ⟨nF, m, d, now, top, L, g, hI⟩ := id hII
  obtain ⟨i1, i2, i3, i4, i5, i6, i7, i8, i9, i10, i11⟩ := id hI
  have no28 : ∀ x : Int, ¬ x = 0 → f_Re_holdsAt_28 wB x1 x2 x3 x4 x5 x = some (up wB 1 0 x, 0) := fun x hx => by
    unfold f_Re_holdsAt_28
    rw [refused_n, bnd_s]
    show (if (if x = 0 then (0 : Int) else 1) = 0 then _ else some (up wB 1 0 x, 0)) = _
    rw [if_neg hx]
    exact if_neg z10
  unfold f_Dm_holdsAnew f_Re_holdsAnew f_Re_holdsAt
  rcases decl_both i1 x1 with ⟨r, rfl, hr, hd, hA, hB⟩ | ⟨-, hA, hB⟩
  · by_cases q : 0 ≤ x5 ∧ x5 ≤ 3
    · obtain ⟨h, rfl⟩ : ∃ h : Nat, x5 = (h : Int) := ⟨x5.toNat, by omega⟩
      have hh : h < 4 := by omega
      obtain ⟨w', N, ρ, c, Lc, a1, a2, a3, a4, a5⟩ := trialA (hour := (h : Int)) (wo := 0) (x4 := 1) hI.low.S i10
      obtain ⟨hAc, n, ρ', c', b1, b2, b3, b4⟩ := (i9 h hh).A
      have hL : Least (SA wA) (lvf L) (FFA nF wA (h : Int) 0) (RrA m wA) (AM N ρ c) := by
        rcases a5 with ⟨-, z⟩ | ⟨-, hO⟩
        · exact z
        · exact absurd (over_ba hI.low.S b3 b4 hO) (fun z => z)
      have hs := least_both hI.low.S hL b4
      have c98 : ∀ c, c < 98 → w' c = wA c := fun c hc => a2.1 c (Or.inl hc)
      have hS' : WfS w' := WfS_congr (fun c a b k => by rw [c98 c (by omega)]) i1.1
      obtain ⟨v, h1, h2, h3⟩ := tup_same (nA := 0) (nB := 0) (x := x2) (y := x3) (z := x4) hS' (WfT_congr (fun c _ _ => by rw [up10 (x := 0) (w := wB) (show c ≠ 1 by omega)]) i1.T) (by rw [up10 (by decide), c98 3 (by omega)]; exact (i1.2 r hr).1) a3 a4 (BMod_congr (fun k hk => up10 (x := 0) (w := wB) (by omega)) b1) (VCs_3 (up10 (x := 0) (w := wB) (by decide)) b2) hr (by rw [c98 3 (by omega)]; exact hd) hs
      refine ⟨(w', 0, v), (up wB 1 0 0, v), ?_, ?_, thrown_n, Or.inl rfl, fun _ => rfl, fun _ => h3, nF, m, d, now, top, L, g, Inv_up10 (Inv_q a2 (QBr.refl i11) hI)⟩
      · rw [hA, bnd_s, if_neg z10, if_neg (show ¬ (h : Int) < 0 by omega), if_pos (show (h : Int) < 4 by omega), a1, bnd_s, h1, bnd_s, gd_t h3]
      · have hat : f_Re_holdsAt_28 wB (r : Int) x2 x3 x4 (h : Int) 0 = some (up wB 1 0 0, v) := by
          unfold f_Re_holdsAt_28
          rw [refused_n, bnd_s]
          show (if (if (0 : Int) = 0 then (0 : Int) else 1) = 0 then bnd (f_Re_hasTuple (up wB 1 0 0) (h : Int) (r : Int) x2 x3 x4) _ else _) = _
          rw [if_pos (if_pos rfl), h2, bnd_s]
          rcases h3 with z | z
          · rw [if_pos z, z]
          · rw [if_neg (by omega), z]
        rw [hB, bnd_s, if_neg z10, inB_n, bnd_s, if_pos q, if_neg z10, hat, bnd_s]
        exact gd_t h3
    · refine ⟨(wA, 2, 0), (up wB 1 0 2, 0), ?_, ?_, thrown_n, Or.inr (Or.inr rfl), fun e => n20 e, fun e => n20 e, nF, m, d, now, top, L, g, Inv_up10 hI⟩
      · rw [hA, bnd_s, if_neg z10]
        by_cases q1 : x5 < 0
        · rw [if_pos q1]
        · rw [if_neg q1, if_neg (show ¬ x5 < 4 by omega)]
      · rw [hB, bnd_s, if_neg z10, inB_n, bnd_s, if_neg q, if_pos rfl, no28 2 z20, bnd_s]
        exact gd_t (Or.inl rfl)
  · refine ⟨(wA, 1, 0), (up wB 1 0 1, 0), ?_, ?_, thrown_n, Or.inr (Or.inl rfl), fun e => n10 e, fun e => n10 e, nF, m, d, now, top, L, g, Inv_up10 hI⟩
    · rw [hA, bnd_s, if_pos rfl]
    · rw [hB, bnd_s, if_pos rfl, no28 1 z10, bnd_s]
      exact gd_t (Or.inl rfl)
