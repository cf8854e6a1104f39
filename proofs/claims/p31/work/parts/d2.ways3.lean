/-! BOTH: ways; the facts, all rules -/
theorem ways_fact {nF mm d now top f r k N n sA s : Nat} {L g : Nat → Nat} {w u : World} {ρ c ρ' c' : Nat → Nat} {Lc : Nat → List Nat} (hI : Inv nF mm d now top L g w u) (a1 : AMod w (g now) N ρ c Lc) (b1 : BMod u now n ρ' c') (b2 : VCs u n ρ' c') (hf : f < nF) (hr : r < 10) (hd : 1 ≤ w 3 r) (hsA : sA < N) (hρA : ρ sA = r) (hkA : kz ((SA w).kq (r : Int)) (c sA) = kz ((SA w).kq (r : Int)) k) (hsn : s < n) (hρ : ρ' s = r) (hks : kz ((SA u).kq (r : Int)) (c' s) = kz ((SA u).kq (r : Int)) k) (k0 : Int) (x : Nat) (hx : x < 100) :
    ∃ i : Nat, i ≤ 1 ∧ f_Dm_waysByFacts_16B w (r : Int) (sA : Int) (x : Int) (f : Int) = some (Sum.inl (((x + i : Nat) : Int), ((f + 1 : Nat) : Int))) ∧ f_Re_ways_47B u (r : Int) (s : Int) (x : Int) (f : Int) = some (Sum.inl (((x + i : Nat) : Int), ((f + 1 : Nat) : Int))) := by
  obtain ⟨i1, i2, i3, i4, i5, i6, i7, i8, i9, i10, i11⟩ := id hI
  have n7A : w 7 0 = (nF : Int) := i2.1.1
  have h24 : nF ≤ 24 := i2.1.2.1
  have n7B : u 1 7 = (nF : Int) := i2.2.1.1
  obtain ⟨v, v1, v2, v3⟩ := holds_both hI hf
  obtain ⟨f7, ⟨fk, fk1, fk2, fk3⟩, -⟩ := i2.2.2.1 f hf
  obtain ⟨r0, k0', z1, z2, z3, z4, z5, z6⟩ := i2.1.2.2 f hf
  have ek : k0' = fk := by omega
  subst ek
  have e81 : ∀ i : Nat, i ≤ 1 → f_Dm_waysByFacts_81 w (r : Int) (sA : Int) ((x + i : Nat) : Int) (f : Int) = some (Sum.inl (((x + i : Nat) : Int), ((f + 1 : Nat) : Int))) := fun i hi => by
    unfold f_Dm_waysByFacts_81
    rw [bl_s, wr_of (x := (f : Int) + 1) ⟨by omega, by omega⟩]
    rfl
  have e810 : f_Dm_waysByFacts_81 w (r : Int) (sA : Int) (x : Int) (f : Int) = some (Sum.inl (((x + 0 : Nat) : Int), ((f + 1 : Nat) : Int))) := e81 0 (by omega)
  have e133 : ∀ i : Nat, i ≤ 1 → f_Re_ways_133 u (r : Int) (s : Int) (f : Int) (x : Int) (i : Int) = some (Sum.inl (((x + i : Nat) : Int), ((f + 1 : Nat) : Int))) := fun i hi => by
    unfold f_Re_ways_133
    rw [bl_s, bl_s, wr_of (x := (f : Int) + 1) ⟨by omega, by omega⟩, wr_of (x := (x : Int) + (i : Int)) ⟨by omega, by omega⟩]
    rfl
  have e1331 : f_Re_ways_133 u (r : Int) (s : Int) (f : Int) (x : Int) 1 = some (Sum.inl (((x + 1 : Nat) : Int), ((f + 1 : Nat) : Int))) := e133 1 (by omega)
  have e132 : f_Re_ways_132 u (r : Int) (s : Int) (f : Int) (x : Int) = some (Sum.inl (((x + 0 : Nat) : Int), ((f + 1 : Nat) : Int))) := e133 0 (by omega)
  have hrel := relationOf_n n7A h24 hf
  have hbA : f_Dm_waysByFacts_16B w (r : Int) (sA : Int) (x : Int) (f : Int) = if v = 0 then f_Dm_waysByFacts_81 w (r : Int) (sA : Int) (x : Int) (f : Int) else (if w 8 f = (r : Int) then (bnd (f_Dm_present w) fun v16 => bnd (f_Fa_codeOf w (f : Int)) fun v19 => gd (kdA v16 = 6) (bnd (f_Mo_slotLike w v16 (r : Int) v19) fun v23 => if v23 = (sA : Int) then (bl (wr ((x : Int) + 1)) fun n27 => f_Dm_waysByFacts_81 w (r : Int) (sA : Int) n27 (f : Int)) else (f_Dm_waysByFacts_81 w (r : Int) (sA : Int) (x : Int) (f : Int)))) else f_Dm_waysByFacts_81 w (r : Int) (sA : Int) (x : Int) (f : Int)) := by
    unfold f_Dm_waysByFacts_16B
    rw [n7A, if_neg (by omega), v1, bnd_s, hrel, bnd_s]
  have hbB : f_Re_ways_47B u (r : Int) (s : Int) (x : Int) (f : Int) = if w 8 f = (r : Int) then (if v = 0 then f_Re_ways_132 u (r : Int) (s : Int) (f : Int) (x : Int) else (bnd (f_Re_place u (now : Int) (r : Int) (u 8 (3 * f)) (u 8 (3 * f + 1)) (u 8 (3 * f + 2))) fun v23 => if v23 = (s : Int) then (f_Re_ways_133 u (r : Int) (s : Int) (f : Int) (x : Int) 1) else (f_Re_ways_132 u (r : Int) (s : Int) (f : Int) (x : Int)))) else f_Re_ways_132 u (r : Int) (s : Int) (f : Int) (x : Int) := by
    have j0 : wr (3 * (f : Int)) = ((3 * f : Nat) : Int) := by rw [wr_of (x := 3 * (f : Int)) ⟨by omega, by omega⟩]; omega
    have j1 : wr (((3 * f : Nat) : Int) + 1) = ((3 * f + 1 : Nat) : Int) := by rw [wr_of (x := ((3 * f : Nat) : Int) + 1) ⟨by omega, by omega⟩]; omega
    have j2 : wr (((3 * f : Nat) : Int) + 2) = ((3 * f + 2 : Nat) : Int) := by rw [wr_of (x := ((3 * f : Nat) : Int) + 2) ⟨by omega, by omega⟩]; omega
    have g0 : 0 ≤ ((3 * f : Nat) : Int) ∧ ((3 * f : Nat) : Int) < 72 := ⟨by omega, by omega⟩
    have g1 : 0 ≤ ((3 * f + 1 : Nat) : Int) ∧ ((3 * f + 1 : Nat) : Int) < 72 := ⟨by omega, by omega⟩
    have g2 : 0 ≤ ((3 * f + 2 : Nat) : Int) ∧ ((3 * f + 2 : Nat) : Int) < 72 := ⟨by omega, by omega⟩
    unfold f_Re_ways_47B
    rw [n7B, if_neg (by omega), gd_t ⟨by omega, by omega⟩, Int.toNat_natCast, f7, j0, j1, j2, gd_t g0, gd_t g1, gd_t g2, Int.toNat_natCast, Int.toNat_natCast, Int.toNat_natCast, v2, bnd_s, i6.2.1]
  have hdu : 1 ≤ u 3 r := by rw [(i1.2 r hr).1]; exact hd
  by_cases hv : v = 0
  · refine ⟨0, by omega, ?_, ?_⟩
    · rw [hbA, if_pos hv, e810]
    · rw [hbB, if_pos hv, e132]
      exact ite_self _
  · by_cases hrr : w 8 f = (r : Int)
    · have er : r0 = r := by omega
      subst er
      have hcode : f_Fa_codeOf w (f : Int) = some (k0' : Int) := by rw [factCode_n n7A h24 hf, z4]
      obtain ⟨va, hva, hva2⟩ := slotA_eq i1.1 a1 hr hd z5 hsA hρA hkA
      have hVu : Vc u r0 k0' := by
        have e3 := (i1.2 r0 hr).1
        intro j h1 h2
        rw [e3] at h1
        exact z6 j h1 h2
      obtain ⟨vb, hvb, hvb2⟩ := placeB_eq (k := k) i1.T b1 b2 hr hdu z5 hVu hsn hρ hks
      have w0 : u 8 (3 * f) = ((clm k0' 0 : Nat) : Int) := fk3 0 (by omega)
      have w1 : u 8 (3 * f + 1) = ((clm k0' 1 : Nat) : Int) := fk3 1 (by omega)
      have w2 : u 8 (3 * f + 2) = ((clm k0' 2 : Nat) : Int) := fk3 2 (by omega)
      rw [if_neg hv, if_pos hrr, present_n i8 i6.2.2 i6.1, bnd_s, hcode, bnd_s, gd_t (kd_ref i8 (by omega)), hva, bnd_s] at hbA
      rw [if_pos hrr, if_neg hv, w0, w1, w2, hvb, bnd_s] at hbB
      rw [i1.SA] at hvb2
      by_cases q : kz ((SA w).kq (r0 : Int)) k0' = kz ((SA w).kq (r0 : Int)) k
      · refine ⟨1, by omega, ?_, ?_⟩
        · rw [hbA, if_pos (hva2.mpr q), bl_s, wr_of (x := (x : Int) + 1) ⟨by omega, by omega⟩]
          exact e81 1 (by omega)
        · rw [hbB, if_pos (hvb2.mpr q), e1331]
      · refine ⟨0, by omega, ?_, ?_⟩
        · rw [hbA, if_neg (fun z => q (hva2.mp z)), e810]
        · rw [hbB, if_neg (fun z => q (hvb2.mp z)), e132]
    · refine ⟨0, by omega, ?_, ?_⟩
      · rw [hbA, if_neg hv, if_neg hrr, e810]
      · rw [hbB, if_neg hrr, e132]
theorem ways_facts {nF mm d now top r k N n sA s : Nat} {L g : Nat → Nat} {w u : World} {ρ c ρ' c' : Nat → Nat} {Lc : Nat → List Nat} (hI : Inv nF mm d now top L g w u) (a1 : AMod w (g now) N ρ c Lc) (b1 : BMod u now n ρ' c') (b2 : VCs u n ρ' c') (hr : r < 10) (hd : 1 ≤ w 3 r) (hsA : sA < N) (hρA : ρ sA = r) (hkA : kz ((SA w).kq (r : Int)) (c sA) = kz ((SA w).kq (r : Int)) k) (hsn : s < n) (hρ : ρ' s = r) (hks : kz ((SA u).kq (r : Int)) (c' s) = kz ((SA u).kq (r : Int)) k) : ∀ (j f x : Nat), f + j = nF → x ≤ f → ∃ y : Nat, y ≤ 24 ∧ f_Dm_waysByFacts_16 w (r : Int) (sA : Int) (x : Int) (f : Int) = some (y : Int) ∧ f_Re_ways_47 u (r : Int) (s : Int) (x : Int) (f : Int) = f_Re_ways_145 u (r : Int) (s : Int) (y : Int) 0 := by
  have n7A : w 7 0 = (nF : Int) := hI.2.1.1.1
  have h24 : nF ≤ 24 := hI.2.1.1.2.1
  have n7B : u 1 7 = (nF : Int) := hI.2.1.2.1.1
  intro j
  induction j with
  | zero =>
    intro f x hf hx
    refine ⟨x, by omega, ?_, ?_⟩
    · unfold f_Dm_waysByFacts_16
      refine lp_out ?_
      show f_Dm_waysByFacts_16B w (r : Int) (sA : Int) (x : Int) (f : Int) = _
      unfold f_Dm_waysByFacts_16B
      rw [n7A, if_pos (by omega)]
    · have hb : f_Re_ways_47B u (r : Int) (s : Int) (x : Int) (f : Int) = bnd (f_Re_ways_145 u (r : Int) (s : Int) (x : Int) 0) fun y4 => some (Sum.inr y4) := by
        unfold f_Re_ways_47B
        rw [n7B, if_pos (by omega)]
      unfold f_Re_ways_47
      rw [lp_unfold]
      show bnd (f_Re_ways_47B u (r : Int) (s : Int) (x : Int) (f : Int)) _ = _
      rw [hb]
      cases f_Re_ways_145 u (r : Int) (s : Int) (x : Int) 0 with
      | none => rfl
      | some o => rfl
  | succ j ih =>
    intro f x hf hx
    obtain ⟨i, hi, h1, h2⟩ := ways_fact hI a1 b1 b2 (show f < nF by omega) hr hd hsA hρA hkA hsn hρ hks 0 x (by omega)
    obtain ⟨y, y0, y1, y2⟩ := ih (f + 1) (x + i) (by omega) (by omega)
    refine ⟨y, y0, ?_, ?_⟩
    · rw [← y1]
      unfold f_Dm_waysByFacts_16
      exact lp_step (F := fun z : (Int × Int) => f_Dm_waysByFacts_16B w (r : Int) (sA : Int) z.1 z.2) (s := ((x : Int), (f : Int))) h1
    · rw [← y2]
      unfold f_Re_ways_47
      exact lp_step (F := fun z : (Int × Int) => f_Re_ways_47B u (r : Int) (s : Int) z.1 z.2) (s := ((x : Int), (f : Int))) h2
theorem ways_rules {nF mm d now top r k N n s : Nat} {L g : Nat → Nat} {wA wB : World} {ρ c ρ' c' : Nat → Nat} {Lc : Nat → List Nat} (hI : Inv nF mm d now top L g wA wB) (a1 : AMod wA (g now) N ρ c Lc) (a2 : VCs wA N ρ c) (b1 : BMod wB now n ρ' c') (b2 : VCs wB n ρ' c') (hn : n ≤ 48) (hs : ∀ r k, AM N ρ c r k ↔ AM n ρ' c' r k) (hr : r < 10) (hd : 1 ≤ wA 3 r) (hk : k < 2097152) (hVk : Vc wB r k) (hsn : s < n) (hρ : ρ' s = r) (hks : kz ((SA wB).kq (r : Int)) (c' s) = kz ((SA wB).kq (r : Int)) k) : ∀ (j kk x y : Nat) (w u : World), kk + j = mm → x ≤ 10000000 * kk → y ≤ 24 + 10000000 * kk → QAr wA w → QBr wB u → u 1 0 = wB 1 0 →
    ∃ w' u' cN, f_Dm_waysByRules_5 w (r : Int) (k : Int) (x : Int) (kk : Int) = some (w', ((x + cN : Nat) : Int)) ∧ f_Re_ways_145 u (r : Int) (s : Int) (y : Int) (kk : Int) = some (u', ((y + cN : Nat) : Int)) ∧ QAr wA w' ∧ QBr wB u' ∧ u' 1 0 = wB 1 0 ∧ x + cN ≤ 120000000 := by
  have hm12 : mm ≤ 12 := hI.2.2.1.1.2.2.1
  intro j
  induction j with
  | zero =>
    intro kk x y w u hkk hx hy hA hB hz
    have hJ := Inv_q hA hB hI
    have nA : w 14 4 = (mm : Int) := hJ.2.2.1.1.2.1
    have nB : u 1 14 = (mm : Int) := hJ.2.2.1.2.1.1
    refine ⟨w, u, 0, ?_, ?_, hA, hB, hz, by omega⟩
    · unfold f_Dm_waysByRules_5
      refine lp_out ?_
      show f_Dm_waysByRules_5B w (r : Int) (k : Int) (x : Int) (kk : Int) = _
      unfold f_Dm_waysByRules_5B
      rw [nA, if_pos (by omega)]
      rfl
    · unfold f_Re_ways_145
      refine lp_out ?_
      show f_Re_ways_145B u (r : Int) (s : Int) (y : Int) (kk : Int) = _
      unfold f_Re_ways_145B
      rw [nB, if_pos (by omega)]
      rfl
  | succ j ih =>
    intro kk x y w u hkk hx hy hA hB hz
    have hJ := Inv_q hA hB hI
    have hg := hI.2.2.2.2.2.2.2.1.rng (i := now) (by have := hI.2.2.2.2.2.1.2.2; omega)
    have h4 := hI.2.2.2.2.2.1.2.2
    have hA3 : ∀ c, c < 98 → w c = wA c := fun c hc => hA.1 c (Or.inl hc)
    have a1' : AMod w (g now) N ρ c Lc := AMod_congr (fun c _ _ => hA3 c (by omega)) (fun c _ _ => hA.1 c (Or.inr (by omega))) a1
    have hB3 : ∀ c, 2 ≤ c → c < 20 → u c = wB c := fun c h1 h2 => funext fun k => hB.1 c k (Or.inl h2) (fun z => by omega)
    have b1' : BMod u now n ρ' c' := BMod_q (fun c h1 h2 => hB3 c (by omega) (by omega)) (hB.2.1 now (by omega)) (fun s hs => hB.2.2.1 _ (by omega)) (fun s hs => hB.2.2.2.1 _ (by omega)) b1
    have hSB : SA u = SA wB := SA_c5 (fun c h1 h2 => hB3 c (by omega) (by omega))
    obtain ⟨w1, u1, cN, p1, p2, p3, p4, p5, p6⟩ := ways_rule (x := x) (y := y) hJ a1' (VCs_3 (hA3 3 (by omega)) a2) b1' (VCs_3 (hB3 3 (by omega) (by omega)) b2) hn hs (show kk < mm by omega) hr (by rw [hA3 3 (by omega)]; exact hd) hk ((Vc_3 (hB3 3 (by omega) (by omega))).mpr hVk) hsn hρ (by rw [hSB]; exact hks) (by omega) (by omega)
    obtain ⟨w', u', cM, t1, t2, t3, t4, t5, t6⟩ := ih (kk + 1) (x + cN) (y + cN) w1 u1 (by omega) (by omega) (by omega) (hA.trans p3) (hB.trans p4) (p5.trans hz)
    refine ⟨w', u', cN + cM, ?_, ?_, t3, t4, t5, by omega⟩
    · rw [show x + (cN + cM) = x + cN + cM by omega, ← t1]
      unfold f_Dm_waysByRules_5
      exact lp_step (F := fun z : (World × Int × Int) => f_Dm_waysByRules_5B z.1 (r : Int) (k : Int) z.2.1 z.2.2) (s := (w, (x : Int), (kk : Int))) p1
    · rw [show y + (cN + cM) = y + cN + cM by omega, ← t2]
      unfold f_Re_ways_145
      exact lp_step (F := fun z : (World × Int × Int) => f_Re_ways_145B z.1 (r : Int) (s : Int) z.2.1 z.2.2) (s := (u, (y : Int), (kk : Int))) p2
theorem st_ways : St_ways II := by
  intro wA wB hII x1 x2 x3 x4 _ _ _ _
  obtain ⟨nF, m, d, now, top, L, g, hI⟩ := id hII
  obtain ⟨i1, i2, i3, i4, i5, i6, i7, i8, i9, i10, i11⟩ := id hI
  rcases decl_both i1 x1 with ⟨r, rfl, hr, hd, hA, hB⟩ | ⟨-, hA, hB⟩
  · have hI0 : Inv nF m d now top L g wA (up wB 1 0 0) := Inv_up10 hI
    obtain ⟨j1, j2, j3, j4, j5, j6, j7, j8, j9, j10, j11⟩ := id hI0
    obtain ⟨⟨N, ρ, c, Lc, a1, a2, a3, a4, -⟩, n, ρ', c', b1, b2, b3, b4⟩ := (j9 now j6.2.2).A
    have hs := least_both hI0.low.S a4 b4
    have hdu : 1 ≤ up wB 1 0 0 3 r := by rw [(j1.2 r hr).1]; exact hd
    obtain ⟨vA, hvA, qA⟩ := isInA_n (x := x2) (y := x3) (z := x4) i1.1 a1 a2 hr hd
    obtain ⟨vB, hvB, qB⟩ := hasTuple_n (x := x2) (y := x3) (z := x4) j1.T b1 b2 hr hdu
    have startA : f_Dm_ways wA (r : Int) x2 x3 x4 = if vA = 0 then (some (wA, 0, 0)) else (bnd (f_Dm_packed x2 x3 x4) fun v16 => bnd (f_Dm_waysByFacts wA (r : Int) v16) fun v19 => bnd (f_Dm_waysByRules wA (r : Int) v16) fun v22 => some (v22.1, 0, wr (v19 + v22.2))) := by
      unfold f_Dm_ways
      rw [hA, bnd_s, if_neg z10, present_n i8 i6.2.2 i6.1, bnd_s, gd_t (kd_ref i8 (by omega)), hvA, bnd_s]
    have startB : f_Re_ways wB (r : Int) x2 x3 x4 = if vB = 0 then (some (up wB 1 0 0, 0)) else (bnd (f_Re_place (up wB 1 0 0) (now : Int) (r : Int) x2 x3 x4) fun v14 => f_Re_ways_47 (up wB 1 0 0) (r : Int) v14 0 0) := by
      have e : up wB 1 0 0 1 1 = (now : Int) := j6.2.1
      unfold f_Re_ways
      rw [noRel_n.1 hB, bnd_s, if_pos rfl]
      show bnd (f_Re_hasTuple (up wB 1 0 0) (up wB 1 0 0 1 1) (r : Int) x2 x3 x4) _ = _
      rw [e, hvB, bnd_s]
      show (if vB = 0 then _ else bnd (f_Re_place (up wB 1 0 0) (up wB 1 0 0 1 1) (r : Int) x2 x3 x4) _) = _
      rw [e]
    by_cases hin : Hs (AM N ρ c) (r : Int) x2 x3 x4
    · have hvA1 : vA ≠ 0 := by
        rcases qA with ⟨z, -⟩ | ⟨-, z⟩
        · omega
        · exact absurd hin z
      have hvB1 : vB ≠ 0 := by
        rcases qB with ⟨z, -⟩ | ⟨-, z⟩
        · omega
        · exact absurd ((hs_same hs).mp hin) z
      obtain ⟨k, hkM, hkj⟩ := hin
      obtain ⟨sA, hsA, hρA, hcA⟩ := id hkM
      obtain ⟨s, hsn, hρ, hcs⟩ := (hs _ _).mp hkM
      have hρA : ρ sA = r := by omega
      have hρ : ρ' s = r := by omega
      have hk : k < 2097152 := by have := (a1.2.2.2.2.1 sA hsA).2.2.1; omega
      have hVk : Vc (up wB 1 0 0) r k := by have := b2 s hsn; rw [hρ, hcs] at this; exact this
      have hVkA : Vc wA r k := by have := a2 sA hsA; rw [hρA, hcA] at this; exact this
      have e2 : x2 = ((clm k 0 : Nat) : Int) := (hkj 0 (by omega)).symm
      have e3 : x3 = ((clm k 1 : Nat) : Int) := (hkj 1 (by omega)).symm
      have e4 : x4 = ((clm k 2 : Nat) : Int) := (hkj 2 (by omega)).symm
      have hkA : kz ((SA wA).kq (r : Int)) (c sA) = kz ((SA wA).kq (r : Int)) k := by rw [hcA]
      have hks : kz ((SA (up wB 1 0 0)).kq (r : Int)) (c' s) = kz ((SA (up wB 1 0 0)).kq (r : Int)) k := by rw [hcs]
      have hpk : f_Dm_packed x2 x3 x4 = some (k : Int) := by
        rw [e2, e3, e4, packed_n clm_lt clm_lt clm_lt, clm_pk hk]
      obtain ⟨va, hva, hva2⟩ := slotA_eq (k := k) (m := k) i1.1 a1 hr hd hk hsA hρA hkA
      have hva3 := hva2.mpr rfl
      obtain ⟨vb, hvb, hvb2⟩ := placeB_eq (k := k) (m := k) j1.T b1 b2 hr hdu hk hVk hsn hρ hks
      have hvb3 := hvb2.mpr rfl
      obtain ⟨y, y0, y1, y2⟩ := ways_facts (k := k) hI0 a1 b1 b2 hr hd hsA hρA hkA hsn hρ hks nF 0 0 (by omega) (by omega)
      obtain ⟨w', u', cN, t1, t2, t3, t4, t5, t6⟩ := ways_rules hI0 a1 a2 b1 b2 b3 hs hr hd hk hVk hsn hρ hks m 0 0 y wA (up wB 1 0 0) (by omega) (by omega) (by omega) (QAr.refl j10) (QBr.refl j11) rfl
      have hF : f_Dm_waysByFacts wA (r : Int) (k : Int) = some (y : Int) := by
        unfold f_Dm_waysByFacts
        rw [present_n i8 i6.2.2 i6.1, bnd_s, gd_t (kd_ref i8 (by omega)), hva, bnd_s, hva3]
        exact y1
      have hRl : f_Dm_waysByRules wA (r : Int) (k : Int) = some (w', ((0 + cN : Nat) : Int)) := t1
      refine ⟨(w', 0, ((y + cN : Nat) : Int)), (u', ((y + cN : Nat) : Int)), ?_, ?_, ?_, Or.inl rfl, fun _ => rfl, nF, m, d, now, top, L, g, Inv_q t3 t4 hI0⟩
      · rw [startA, if_neg hvA1, hpk, bnd_s, hF, bnd_s, hRl, bnd_s, wr_of (x := (y : Int) + ((0 + cN : Nat) : Int)) ⟨by omega, by omega⟩]
        congr 3
        omega
      · rw [startB, if_neg hvB1, e2, e3, e4, hvb, bnd_s, hvb3]
        show f_Re_ways_47 (up wB 1 0 0) (r : Int) (s : Int) ((0 : Nat) : Int) ((0 : Nat) : Int) = _
        rw [y2]
        exact t2
      · unfold f_Re_thrown
        show some (u' 1 0) = _
        rw [t5]
        simp [up]
        rfl
    · have hvA0 : vA = 0 := by
        rcases qA with ⟨-, z⟩ | ⟨z, -⟩
        · exact absurd z hin
        · exact z
      have hvB0 : vB = 0 := by
        rcases qB with ⟨-, z⟩ | ⟨z, -⟩
        · exact absurd ((hs_same hs).mpr z) hin
        · exact z
      refine ⟨(wA, 0, 0), (up wB 1 0 0, 0), ?_, ?_, thrown_n, Or.inl rfl, fun _ => rfl, II_up10 hII⟩
      · rw [startA, if_pos hvA0]
      · rw [startB, if_pos hvB0]
  · refine ⟨(wA, 1, 0), (up wB 1 0 1, 0), ?_, ?_, thrown_n, Or.inr rfl, fun e => n10 e, II_up10 hII⟩
    · unfold f_Dm_ways
      rw [hA, bnd_s, if_pos rfl]
    · unfold f_Re_ways
      rw [noRel_n.2 hB, bnd_s]
      exact if_neg z10
