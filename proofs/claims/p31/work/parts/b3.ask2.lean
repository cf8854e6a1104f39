/-! BOTH: holds, holdsAt, stratum -/
theorem z10 : ¬ ((1 : Int) = 0) := by decide
theorem z20 : ¬ ((2 : Int) = 0) := by decide
theorem z30 : ¬ ((3 : Int) = 0) := by decide
theorem n10 {P : Prop} (e : (1 : Nat) = 0) : P := absurd e (by decide)
theorem n20 {P : Prop} (e : (2 : Nat) = 0) : P := absurd e (by decide)
theorem n30 {P : Prop} (e : (3 : Nat) = 0) : P := absurd e (by decide)
theorem ISch.SA {wA wB : World} (h : ISch wA wB) : SA wB = SA wA := by
  have e : ∀ c : Nat, c = 3 ∨ c = 4 ∨ c = 5 → ∀ r : Int, (if 0 ≤ r ∧ r < 10 then (wB c r.toNat).toNat else 0) = if 0 ≤ r ∧ r < 10 then (wA c r.toNat).toNat else 0 := fun c hc r => by
    by_cases q : 0 ≤ r ∧ r < 10
    · rw [if_pos q, if_pos q]
      have := h.2 r.toNat (by omega)
      rcases hc with rfl | rfl | rfl
      · rw [this.1]
      · rw [this.2.1]
      · rw [this.2.2.1]
    · rw [if_neg q, if_neg q]
  show (_, _, _) = ((_, _, _) : SH)
  rw [show (fun r : Int => if 0 ≤ r ∧ r < 10 then (wB 3 r.toNat).toNat else 0) = (fun r : Int => if 0 ≤ r ∧ r < 10 then (wA 3 r.toNat).toNat else 0) from funext (e 3 (by omega)), show (fun r : Int => if 0 ≤ r ∧ r < 10 then (wB 4 r.toNat).toNat else 0) = (fun r : Int => if 0 ≤ r ∧ r < 10 then (wA 4 r.toNat).toNat else 0) from funext (e 4 (by omega)), show (fun r : Int => if 0 ≤ r ∧ r < 10 then (wB 5 r.toNat).toNat else 0) = (fun r : Int => if 0 ≤ r ∧ r < 10 then (wA 5 r.toNat).toNat else 0) from funext (e 5 (by omega))]
theorem ISch.T {wA wB : World} (h : ISch wA wB) : WfT wB := by
  intro r hr
  obtain ⟨e3, e4, e5, -⟩ := h.2 r hr
  obtain ⟨a1, a2, a3, a4, a5⟩ := h.1 r hr
  rw [e3, e4, e5]
  exact ⟨a1, a2, a3, fun z => (a4 z).2, a5⟩
theorem IRul.RS {m : Nat} {wA wB : World} (h : IRul m wA wB) : RS (RrA m wA) (RrB m wB) := by
  refine ⟨?_, ?_⟩
  · rintro R ⟨i, hi, hg, rfl⟩
    obtain ⟨e, er, -⟩ := h.2.2 i hi
    have hg : wA (22 + 4 * i) 2 = 0 := hg
    exact ⟨RBB wB i, ⟨i, hi, er.trans hg, rfl⟩, e⟩
  · rintro R ⟨i, hi, hg, rfl⟩
    obtain ⟨e, er, -⟩ := h.2.2 i hi
    have hg : wB 13 i = 0 := hg
    exact ⟨RB wA (22 + 4 * i), ⟨i, hi, er.symm.trans hg, rfl⟩, e⟩
theorem IFac.FF {nF : Nat} {wA wB : World} (h : IFac nF wA wB) {hour wo : Int} : ∀ r k, FFA nF wA hour wo r k ↔ FFB nF wB hour wo r k := by
  have cond : ∀ f, f < nF → (FaC wA hour wo f ↔ FcB wB hour wo f) := fun f hf => by
    obtain ⟨a1, -, -, ⟨b1, b2, -⟩, a6, -⟩ := h.2.2.1 f hf
    unfold FaC FcB
    rw [a6, b1, b2]
  intro r k
  constructor
  · rintro ⟨f, hf, hc, hr, hk⟩
    obtain ⟨a1, ⟨k', e1, e2, e3⟩, -⟩ := h.2.2.1 f hf
    have : k' = k := by omega
    subst this
    exact ⟨f, hf, (cond f hf).mp hc, a1.trans hr, e3, e2⟩
  · rintro ⟨f, hf, hc, hr, hk, hk2⟩
    obtain ⟨a1, ⟨k', e1, e2, e3⟩, -⟩ := h.2.2.1 f hf
    have : k' = k := clm_inj e2 hk2 (fun j hj => by have h1 := e3 j hj; have h2 := hk j hj; omega)
    subst this
    exact ⟨f, hf, (cond f hf).mpr hc, a1.symm.trans hr, e1⟩
theorem FF_least {D : SH} {lv : Int → Nat} {FF FF' : MM} {RR : RU → Prop} {M : MM} (h : ∀ r k, FF r k ↔ FF' r k) (hL : Least D lv FF RR M) : Least D lv FF' RR M := by
  have : FF = FF' := funext fun r => funext fun k => propext (h r k)
  rw [← this]
  exact hL
/-- the models of both are one -/
theorem same_hour {nF m d now top : Nat} {L g : Nat → Nat} {wA wB : World} (hI : Inv nF m d now top L g wA wB) {h : Nat} {N n : Nat} {ρ c ρ' c' : Nat → Nat} (hA : Least (SA wA) (lvf L) (FFA nF wA (h : Int) 0) (RrA m wA) (AM N ρ c)) (hB : Least (SA wB) (lvf L) (FFB nF wB (h : Int) 0) (RrB m wB) (AM n ρ' c')) : ∀ r k, AM N ρ c r k ↔ AM n ρ' c' r k := by
  obtain ⟨i1, i2, i3, -⟩ := hI
  have hB2 : Least (SA wA) (lvf L) (FFA nF wA (h : Int) 0) (RrA m wA) (AM n ρ' c') := by
    have := i3.RS.symm.least (FF_least (fun r k => (i2.FF r k).symm) hB)
    rw [i1.SA] at this
    exact this
  exact least_uni i1.1.D hA hB2
theorem modelOf_n {g : Nat → Nat} {wA : World} (h : IRef g wA) {k : Nat} (hk : k < 4) : f_Dm_modelOf wA (k : Int) = some (g k) := by
  have hg := h.rng (i := k) (by omega)
  unfold f_Dm_modelOf f_Dm_modelOf_26
  rw [if_neg (by omega), if_neg (by omega), gd_t ⟨by omega, by omega⟩, Int.toNat_natCast, (h.2.2 k hk).1, Int.toNat_natCast, if_neg (by omega)]
theorem present_n {g : Nat → Nat} {wA : World} (h : IRef g wA) {k : Nat} (hk : k < 4) (e : wA 1 12 = (k : Int)) : f_Dm_present wA = some (g k) := by
  unfold f_Dm_present
  rw [e, modelOf_n h hk, bnd_s]
/-- the reference's world while it is asked -/
theorem noRel_n {w : World} {x : Int} : (f_Re_isRelation w x = some 1 → f_Re_noRelation w x = some (up w 1 0 0, 0)) ∧ (f_Re_isRelation w x = some 0 → f_Re_noRelation w x = some (up w 1 0 1, 1)) := by
  constructor
  · intro h
    unfold f_Re_noRelation f_Re_noRelation_14
    rw [h, bnd_s, if_neg (by decide), refused_n, bnd_s, if_pos rfl, gd_t (Or.inl rfl)]
  · intro h
    unfold f_Re_noRelation f_Re_noRelation_14
    rw [h, bnd_s, if_pos rfl, refused_n, bnd_s, if_neg (by decide), gd_t (Or.inr rfl)]
theorem up10 {w : World} {x : Int} {c : Nat} (h : c ≠ 1) : up w 1 0 x c = w c := by funext k; simp [up, h]
theorem up10_f {w : World} {x : Int} {k : Nat} (h : k ≠ 0) : up w 1 0 x 1 k = w 1 k := by simp [up, h]
theorem Inv_up10 {nF m d now top : Nat} {L g : Nat → Nat} {wA wB : World} {x : Int} (hI : Inv nF m d now top L g wA wB) : Inv nF m d now top L g wA (up wB 1 0 x) := by
  have hV := hI.2.2.2.2.2.2.2.2.2.1
  have hVB := hI.2.2.2.2.2.2.2.2.2.2
  exact Inv_q (QAr.refl hV) (up10_Q hVB) hI
theorem hs_same {M M' : MM} {r : Int} {x y z : Int} (h : ∀ r k, M r k ↔ M' r k) : Hs M r x y z ↔ Hs M' r x y z := exists_congr fun k => and_congr (h r k) Iff.rfl
/-- whether a tuple is in the model of an hour: both answer alike -/
theorem isin_both {nF m d now top : Nat} {L g : Nat → Nat} {wA wB wB' : World} {h r : Nat} {x y z : Int} (hI : Inv nF m d now top L g wA wB) (hh : h < 4) (hr : r < 10) (hd : 1 ≤ wA 3 r) (hB' : ∀ c, c ≠ 1 → wB' c = wB c) : ∃ v, f_Dm_isIn wA (g h) (r : Int) x y z = some v ∧ f_Re_hasTuple wB' (h : Int) (r : Int) x y z = some v ∧ (v = 0 ∨ v = 1) := by
  obtain ⟨i1, -, -, -, -, -, -, i8, i9, -⟩ := id hI
  obtain ⟨N, ρ, c, Lc, n, ρ', c', a1, a2, a3, a4, a5, a6, a7, a8, a9⟩ := i9 h hh
  have hs := same_hour hI a4 a8
  obtain ⟨v, hv, hv2⟩ := isInA_n (x := x) (y := y) (z := z) i1.1 a1 a2 hr hd
  have a5' : BMod wB' h n ρ' c' := BMod_congr (fun k hk => hB' k (by omega)) a5
  obtain ⟨u, hu, hu2⟩ := hasTuple_n (x := x) (y := y) (z := z) (WfT_congr (fun c _ _ => hB' c (by omega)) i1.T) a5' (VCs_3 (hB' 3 (by decide)) a6) hr (by rw [hB' 3 (by decide), (i1.2 r hr).1]; exact hd)
  have e : v = u := by
    rcases hv2 with ⟨e1, q1⟩ | ⟨e1, q1⟩
    · rcases hu2 with ⟨e2, q2⟩ | ⟨e2, q2⟩
      · omega
      · exact absurd ((hs_same hs).mp q1) q2
    · rcases hu2 with ⟨e2, q2⟩ | ⟨e2, q2⟩
      · exact absurd ((hs_same hs).mpr q2) q1
      · omega
  exact ⟨v, hv, by rw [e]; exact hu, by rcases hv2 with z | z; exact Or.inr z.1; exact Or.inl z.1⟩
theorem kd_ref {g : Nat → Nat} {wA : World} (h : IRef g wA) {k : Nat} (hk : k < 8) : kdA (g k) = 6 := (h.rng hk).2.2
theorem st_holds : St_holds II := by
  intro wA wB hII x1 x2 x3 x4 _ _ _ _
  obtain ⟨nF, m, d, now, top, L, g, hI⟩ := hII
  obtain ⟨i1, i2, i3, i4, i5, i6, i7, i8, i9, i10, i11⟩ := id hI
  unfold f_Dm_holds f_Re_holds
  rcases decl_both i1 x1 with ⟨r, rfl, hr, hd, hA, hB⟩ | ⟨-, hA, hB⟩
  · obtain ⟨v, h1, h2, h3⟩ := isin_both (wB' := up wB 1 0 0) (x := x2) (y := x3) (z := x4) hI i6.2.2 hr hd (fun c hc => up10 hc)
    refine ⟨(wA, 0, v), (up wB 1 0 0, v), ?_, ?_, thrown_n, Or.inl rfl, fun _ => rfl, fun _ => h3, nF, m, d, now, top, L, g, Inv_up10 hI⟩
    · rw [hA, bnd_s, if_neg z10, present_n i8 i6.2.2 i6.1, bnd_s, gd_t (kd_ref i8 (by omega)), h1, bnd_s, gd_t h3]
    · rw [noRel_n.1 hB, bnd_s, if_pos rfl]
      show bnd (f_Re_hasTuple (up wB 1 0 0) (up wB 1 0 0 1 1) (r : Int) x2 x3 x4) _ = _
      rw [up10_f (by decide), i6.2.1, h2, bnd_s]
      rcases h3 with z | z
      · rw [if_pos z, z]
      · rw [if_neg (by omega), z]
  · refine ⟨(wA, 1, 0), (up wB 1 0 1, 0), ?_, ?_, thrown_n, Or.inr rfl, fun e => n10 e, fun e => n10 e, nF, m, d, now, top, L, g, Inv_up10 hI⟩
    · rw [hA, bnd_s, if_pos rfl]
    · rw [noRel_n.2 hB, bnd_s]
      exact if_neg z10
theorem st_holdsAt : St_holdsAt II := by
  intro wA wB hII x1 x2 x3 x4 x5 _ _ _ _ _
  obtain ⟨nF, m, d, now, top, L, g, hI⟩ := hII
  obtain ⟨i1, i2, i3, i4, i5, i6, i7, i8, i9, i10, i11⟩ := id hI
  unfold f_Dm_holdsAt f_Re_holdsAt f_Re_holdsAt_28
  rcases decl_both i1 x1 with ⟨r, rfl, hr, hd, hA, hB⟩ | ⟨-, hA, hB⟩
  · by_cases q : 0 ≤ x5 ∧ x5 ≤ 3
    · obtain ⟨h, rfl⟩ : ∃ h : Nat, x5 = (h : Int) := ⟨x5.toNat, by omega⟩
      have hh : h < 4 := by omega
      obtain ⟨v, h1, h2, h3⟩ := isin_both (wB' := up wB 1 0 0) (x := x2) (y := x3) (z := x4) hI hh hr hd (fun c hc => up10 hc)
      refine ⟨(wA, 0, v), (up wB 1 0 0, v), ?_, ?_, thrown_n, Or.inl rfl, fun _ => rfl, fun _ => h3, nF, m, d, now, top, L, g, Inv_up10 hI⟩
      · rw [hA, bnd_s, if_neg z10, if_neg (show ¬ (h : Int) < 0 by omega), if_pos (show (h : Int) < 4 by omega), modelOf_n i8 hh, bnd_s, gd_t (kd_ref i8 (by omega)), h1, bnd_s, gd_t h3]
      · rw [hB, bnd_s, if_neg z10, inB_n, bnd_s, if_pos q, if_neg z10, refused_n, bnd_s]
        show (if (if (0 : Int) = 0 then (0 : Int) else 1) = 0 then bnd (f_Re_hasTuple (up wB 1 0 0) (h : Int) (r : Int) x2 x3 x4) _ else _) = _
        rw [if_pos (if_pos rfl), h2, bnd_s]
        rcases h3 with z | z
        · rw [if_pos z, z]
        · rw [if_neg (by omega), z]
    · refine ⟨(wA, 2, 0), (up wB 1 0 2, 0), ?_, ?_, thrown_n, Or.inr (Or.inr rfl), fun e => n20 e, fun e => n20 e, nF, m, d, now, top, L, g, Inv_up10 hI⟩
      · rw [hA, bnd_s, if_neg z10]
        by_cases q1 : x5 < 0
        · rw [if_pos q1]
        · rw [if_neg q1, if_neg (show ¬ x5 < 4 by omega)]
      · rw [hB, bnd_s, if_neg z10, inB_n, bnd_s, if_neg q, if_pos rfl, refused_n, bnd_s]
        show (if (if (2 : Int) = 0 then (0 : Int) else 1) = 0 then _ else some (up wB 1 0 2, 0)) = _
        rw [if_neg z20, if_neg z10]
  · refine ⟨(wA, 1, 0), (up wB 1 0 1, 0), ?_, ?_, thrown_n, Or.inr (Or.inl rfl), fun e => n10 e, fun e => n10 e, nF, m, d, now, top, L, g, Inv_up10 hI⟩
    · rw [hA, bnd_s, if_pos rfl]
    · rw [hB, bnd_s, if_pos rfl, refused_n, bnd_s]
      show (if (if (1 : Int) = 0 then (0 : Int) else 1) = 0 then _ else some (up wB 1 0 1, 0)) = _
      rw [if_neg z10, if_neg z10]
theorem st_stratum : St_stratum II := by
  intro wA wB hII x1 _
  obtain ⟨nF, m, d, now, top, L, g, hI⟩ := hII
  obtain ⟨i1, i2, i3, i4, i5, i6, i7, i8, i9, i10, i11⟩ := id hI
  unfold f_Dm_stratum f_Re_stratum
  rcases decl_both i1 x1 with ⟨r, rfl, hr, hd, hA, hB⟩ | ⟨-, hA, hB⟩
  · refine ⟨(wA, 0, (L r : Int)), (up wB 1 0 0, (L r : Int)), ?_, ?_, thrown_n, Or.inl rfl, fun _ => rfl, nF, m, d, now, top, L, g, Inv_up10 hI⟩
    · rw [hA, bnd_s, if_neg z10, levelOf_n hr, bnd_s, i7.1.1 r hr]
    · rw [noRel_n.1 hB, bnd_s, if_pos rfl, gd_t ⟨by omega, by omega⟩]
      show some (up wB 1 0 0, up wB 1 0 0 6 (r : Int).toNat) = _
      rw [up10 (by decide), Int.toNat_natCast, i7.2.1 r hr]
  · refine ⟨(wA, 1, 0), (up wB 1 0 1, 0), ?_, ?_, thrown_n, Or.inr rfl, fun e => n10 e, nF, m, d, now, top, L, g, Inv_up10 hI⟩
    · rw [hA, bnd_s, if_pos rfl]
    · rw [noRel_n.2 hB, bnd_s]
      exact if_neg z10
