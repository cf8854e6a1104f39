/-! QUESTIONS leave the picture as it was: each keeps 'II and the picture's lasting cells' (began as the rows st_..) -/
def IB (b : World) (wA wB : World) : Prop := II wA wB ∧ QBr b wB
theorem II_VB {wA wB : World} (h : II wA wB) : VB wB := by
  obtain ⟨nF, m, d, now, top, L, g, hI⟩ := h
  exact hI.2.2.2.2.2.2.2.2.2.2
theorem QBr.ofs {wA wB wB' : World} (hI : II wA wB) (h : QBr wB wB') : II wA wB' → II wA wB' := id
theorem no_vq {b : World} {wA wB : World} {a b' c x : Int} {e : Nat} {fA : Option (World × Nat × Int)} {fB : Option (World × Int)} (P : Nat → Prop) (hII : II wA wB) (hqb : QBr b wB) (he0 : e ≠ 0) (h1 : fA = some (wA, e, 0)) (h2 : fB = some (up wB 1 0 x, 0)) (hx : x = hmL a b' c e) (he : P e) : ∃ (oA : World × Nat × Int) (oB : World × Int), fA = some oA ∧ fB = some oB ∧ f_Re_thrown oB.1 = some (hmL a b' c oA.2.1) ∧ P oA.2.1 ∧ (oA.2.1 = 0 → oA.2.2 = oB.2) ∧ IB b oA.1 oB.1 :=
  ⟨_, _, h1, h2, by rw [thrown_n, hx], he, fun q => absurd q he0, II_up10 hII, hqb.trans (up10_Q (II_VB hII))⟩
theorem sq_holds (b : World) : St_holds (IB b) := by
  intro wA wB hIB x1 x2 x3 x4 _ _ _ _
  obtain ⟨hII, hqb⟩ := hIB
  have hVBq := II_VB hII
  obtain ⟨nF, m, d, now, top, L, g, hI⟩ := id hII
  obtain ⟨i1, i2, i3, i4, i5, i6, i7, i8, i9, i10, i11⟩ := id hI
  unfold f_Dm_holds f_Re_holds
  rcases decl_both i1 x1 with ⟨r, rfl, hr, hd, hA, hB⟩ | ⟨-, hA, hB⟩
  · obtain ⟨v, h1, h2, h3⟩ := isin_both (wB' := up wB 1 0 0) (x := x2) (y := x3) (z := x4) hI i6.2.2 hr hd (fun c hc => up10 hc)
    refine ⟨(wA, 0, v), (up wB 1 0 0, v), ?_, ?_, thrown_n, Or.inl rfl, fun _ => rfl, fun _ => h3, ⟨nF, m, d, now, top, L, g, Inv_up10 hI⟩, hqb.trans (by first | exact up10_Q hVBq | exact t4 | exact (up10_Q hVBq).trans t4 | exact x4 | exact (up10_Q hVBq).trans x4 | exact y4 | exact (up10_Q hVBq).trans y4 | exact y4.trans (up10_Q y4.2.2.2.2) | exact p5 | exact (up10_Q hVBq).trans p5 | exact (up10_Q hVBq).trans (p4.Q i11) | exact (up10_Q hVBq).trans (p4.Q hVBq))⟩
    · rw [hA, bnd_s, if_neg z10, present_n i8 i6.2.2 i6.1, bnd_s, gd_t (kd_ref i8 (by omega)), h1, bnd_s, gd_t h3]
    · rw [noRel_n.1 hB, bnd_s, if_pos rfl]
      show bnd (f_Re_hasTuple (up wB 1 0 0) (up wB 1 0 0 1 1) (r : Int) x2 x3 x4) _ = _
      rw [up10_f (by decide), i6.2.1, h2, bnd_s]
      rcases h3 with z | z
      · rw [if_pos z, z]
      · rw [if_neg (by omega), z]
  · refine ⟨(wA, 1, 0), (up wB 1 0 1, 0), ?_, ?_, thrown_n, Or.inr rfl, fun e => n10 e, fun e => n10 e, ⟨nF, m, d, now, top, L, g, Inv_up10 hI⟩, hqb.trans (by first | exact up10_Q hVBq | exact t4 | exact (up10_Q hVBq).trans t4 | exact x4 | exact (up10_Q hVBq).trans x4 | exact y4 | exact (up10_Q hVBq).trans y4 | exact y4.trans (up10_Q y4.2.2.2.2) | exact p5 | exact (up10_Q hVBq).trans p5 | exact (up10_Q hVBq).trans (p4.Q i11) | exact (up10_Q hVBq).trans (p4.Q hVBq))⟩
    · rw [hA, bnd_s, if_pos rfl]
    · rw [noRel_n.2 hB, bnd_s]
      exact if_neg z10
theorem sq_holdsAt (b : World) : St_holdsAt (IB b) := by
  intro wA wB hIB x1 x2 x3 x4 x5 _ _ _ _ _
  obtain ⟨hII, hqb⟩ := hIB
  have hVBq := II_VB hII
  obtain ⟨nF, m, d, now, top, L, g, hI⟩ := id hII
  obtain ⟨i1, i2, i3, i4, i5, i6, i7, i8, i9, i10, i11⟩ := id hI
  unfold f_Dm_holdsAt f_Re_holdsAt f_Re_holdsAt_28
  rcases decl_both i1 x1 with ⟨r, rfl, hr, hd, hA, hB⟩ | ⟨-, hA, hB⟩
  · by_cases q : 0 ≤ x5 ∧ x5 ≤ 3
    · obtain ⟨h, rfl⟩ : ∃ h : Nat, x5 = (h : Int) := ⟨x5.toNat, by omega⟩
      have hh : h < 4 := by omega
      obtain ⟨v, h1, h2, h3⟩ := isin_both (wB' := up wB 1 0 0) (x := x2) (y := x3) (z := x4) hI hh hr hd (fun c hc => up10 hc)
      refine ⟨(wA, 0, v), (up wB 1 0 0, v), ?_, ?_, thrown_n, Or.inl rfl, fun _ => rfl, fun _ => h3, ⟨nF, m, d, now, top, L, g, Inv_up10 hI⟩, hqb.trans (by first | exact up10_Q hVBq | exact t4 | exact (up10_Q hVBq).trans t4 | exact x4 | exact (up10_Q hVBq).trans x4 | exact y4 | exact (up10_Q hVBq).trans y4 | exact y4.trans (up10_Q y4.2.2.2.2) | exact p5 | exact (up10_Q hVBq).trans p5 | exact (up10_Q hVBq).trans (p4.Q i11) | exact (up10_Q hVBq).trans (p4.Q hVBq))⟩
      · rw [hA, bnd_s, if_neg z10, if_neg (show ¬ (h : Int) < 0 by omega), if_pos (show (h : Int) < 4 by omega), modelOf_n i8 hh, bnd_s, gd_t (kd_ref i8 (by omega)), h1, bnd_s, gd_t h3]
      · rw [hB, bnd_s, if_neg z10, inB_n, bnd_s, if_pos q, if_neg z10, refused_n, bnd_s]
        show (if (if (0 : Int) = 0 then (0 : Int) else 1) = 0 then bnd (f_Re_hasTuple (up wB 1 0 0) (h : Int) (r : Int) x2 x3 x4) _ else _) = _
        rw [if_pos (if_pos rfl), h2, bnd_s]
        rcases h3 with z | z
        · rw [if_pos z, z]
        · rw [if_neg (by omega), z]
    · refine ⟨(wA, 2, 0), (up wB 1 0 2, 0), ?_, ?_, thrown_n, Or.inr (Or.inr rfl), fun e => n20 e, fun e => n20 e, ⟨nF, m, d, now, top, L, g, Inv_up10 hI⟩, hqb.trans (by first | exact up10_Q hVBq | exact t4 | exact (up10_Q hVBq).trans t4 | exact x4 | exact (up10_Q hVBq).trans x4 | exact y4 | exact (up10_Q hVBq).trans y4 | exact y4.trans (up10_Q y4.2.2.2.2) | exact p5 | exact (up10_Q hVBq).trans p5 | exact (up10_Q hVBq).trans (p4.Q i11) | exact (up10_Q hVBq).trans (p4.Q hVBq))⟩
      · rw [hA, bnd_s, if_neg z10]
        by_cases q1 : x5 < 0
        · rw [if_pos q1]
        · rw [if_neg q1, if_neg (show ¬ x5 < 4 by omega)]
      · rw [hB, bnd_s, if_neg z10, inB_n, bnd_s, if_neg q, if_pos rfl, refused_n, bnd_s]
        show (if (if (2 : Int) = 0 then (0 : Int) else 1) = 0 then _ else some (up wB 1 0 2, 0)) = _
        rw [if_neg z20, if_neg z10]
  · refine ⟨(wA, 1, 0), (up wB 1 0 1, 0), ?_, ?_, thrown_n, Or.inr (Or.inl rfl), fun e => n10 e, fun e => n10 e, ⟨nF, m, d, now, top, L, g, Inv_up10 hI⟩, hqb.trans (by first | exact up10_Q hVBq | exact t4 | exact (up10_Q hVBq).trans t4 | exact x4 | exact (up10_Q hVBq).trans x4 | exact y4 | exact (up10_Q hVBq).trans y4 | exact y4.trans (up10_Q y4.2.2.2.2) | exact p5 | exact (up10_Q hVBq).trans p5 | exact (up10_Q hVBq).trans (p4.Q i11) | exact (up10_Q hVBq).trans (p4.Q hVBq))⟩
    · rw [hA, bnd_s, if_pos rfl]
    · rw [hB, bnd_s, if_pos rfl, refused_n, bnd_s]
      show (if (if (1 : Int) = 0 then (0 : Int) else 1) = 0 then _ else some (up wB 1 0 1, 0)) = _
      rw [if_neg z10, if_neg z10]
theorem sq_stratum (b : World) : St_stratum (IB b) := by
  intro wA wB hIB x1 _
  obtain ⟨hII, hqb⟩ := hIB
  have hVBq := II_VB hII
  obtain ⟨nF, m, d, now, top, L, g, hI⟩ := id hII
  obtain ⟨i1, i2, i3, i4, i5, i6, i7, i8, i9, i10, i11⟩ := id hI
  unfold f_Dm_stratum f_Re_stratum
  rcases decl_both i1 x1 with ⟨r, rfl, hr, hd, hA, hB⟩ | ⟨-, hA, hB⟩
  · refine ⟨(wA, 0, (L r : Int)), (up wB 1 0 0, (L r : Int)), ?_, ?_, thrown_n, Or.inl rfl, fun _ => rfl, ⟨nF, m, d, now, top, L, g, Inv_up10 hI⟩, hqb.trans (by first | exact up10_Q hVBq | exact t4 | exact (up10_Q hVBq).trans t4 | exact x4 | exact (up10_Q hVBq).trans x4 | exact y4 | exact (up10_Q hVBq).trans y4 | exact y4.trans (up10_Q y4.2.2.2.2) | exact p5 | exact (up10_Q hVBq).trans p5 | exact (up10_Q hVBq).trans (p4.Q i11) | exact (up10_Q hVBq).trans (p4.Q hVBq))⟩
    · rw [hA, bnd_s, if_neg z10, levelOf_n hr, bnd_s, i7.1.1 r hr]
    · rw [noRel_n.1 hB, bnd_s, if_pos rfl, gd_t ⟨by omega, by omega⟩]
      show some (up wB 1 0 0, up wB 1 0 0 6 (r : Int).toNat) = _
      rw [up10 (by decide), Int.toNat_natCast, i7.2.1 r hr]
  · refine ⟨(wA, 1, 0), (up wB 1 0 1, 0), ?_, ?_, thrown_n, Or.inr rfl, fun e => n10 e, ⟨nF, m, d, now, top, L, g, Inv_up10 hI⟩, hqb.trans (by first | exact up10_Q hVBq | exact t4 | exact (up10_Q hVBq).trans t4 | exact x4 | exact (up10_Q hVBq).trans x4 | exact y4 | exact (up10_Q hVBq).trans y4 | exact y4.trans (up10_Q y4.2.2.2.2) | exact p5 | exact (up10_Q hVBq).trans p5 | exact (up10_Q hVBq).trans (p4.Q i11) | exact (up10_Q hVBq).trans (p4.Q hVBq))⟩
    · rw [hA, bnd_s, if_pos rfl]
    · rw [noRel_n.2 hB, bnd_s]
      exact if_neg z10
theorem sq_size (b : World) : St_size (IB b) := by
  intro wA wB hIB x1 _
  obtain ⟨hII, hqb⟩ := hIB
  have hVBq := II_VB hII
  obtain ⟨nF, m, d, now, top, L, g, hI⟩ := id hII
  obtain ⟨i1, i2, i3, i4, i5, i6, i7, i8, i9, i10, i11⟩ := id hI
  unfold f_Dm_size f_Re_size
  rcases decl_both i1 x1 with ⟨r, rfl, hr, hd, hA, hB⟩ | ⟨-, hA, hB⟩
  · obtain ⟨N, ρ, c, Lc, n, ρ', c', a1, a2, a3, a4, a5, a6, a7, a8, a9⟩ := i9 now i6.2.2
    have hs := same_hour hI a4 a8
    have a5' : BMod (up wB 1 0 0) now n ρ' c' := BMod_congr (fun k hk => up10 (by omega)) a5
    refine ⟨(wA, 0, ((Lc r).length : Int)), (up wB 1 0 0, ((Lc r).length : Int)), ?_, ?_, thrown_n, Or.inl rfl, fun _ => rfl, ⟨nF, m, d, now, top, L, g, Inv_up10 hI⟩, hqb.trans (by first | exact up10_Q hVBq | exact t4 | exact (up10_Q hVBq).trans t4 | exact x4 | exact (up10_Q hVBq).trans x4 | exact y4 | exact (up10_Q hVBq).trans y4 | exact y4.trans (up10_Q y4.2.2.2.2) | exact p5 | exact (up10_Q hVBq).trans p5 | exact (up10_Q hVBq).trans (p4.Q i11) | exact (up10_Q hVBq).trans (p4.Q hVBq))⟩
    · rw [hA, bnd_s, if_neg z10, present_n i8 i6.2.2 i6.1, bnd_s, gd_t (kd_ref i8 (by omega)), tuplesOf_n a1 hr, bnd_s]
    · rw [noRel_n.1 hB, bnd_s, if_pos rfl, sizeOf_n a5' (by rw [up10_f (by decide)]; exact i6.2.1), bnd_s, size_same a1 a5 hs hr]
  · refine ⟨(wA, 1, 0), (up wB 1 0 1, 0), ?_, ?_, thrown_n, Or.inr rfl, fun e => n10 e, ⟨nF, m, d, now, top, L, g, Inv_up10 hI⟩, hqb.trans (by first | exact up10_Q hVBq | exact t4 | exact (up10_Q hVBq).trans t4 | exact x4 | exact (up10_Q hVBq).trans x4 | exact y4 | exact (up10_Q hVBq).trans y4 | exact y4.trans (up10_Q y4.2.2.2.2) | exact p5 | exact (up10_Q hVBq).trans p5 | exact (up10_Q hVBq).trans (p4.Q i11) | exact (up10_Q hVBq).trans (p4.Q hVBq))⟩
    · rw [hA, bnd_s, if_pos rfl]
    · rw [noRel_n.2 hB, bnd_s]
      exact if_neg z10
theorem sq_at (b : World) : St_at (IB b) := by
  intro wA wB hIB x1 x2 _ hx2
  obtain ⟨hII, hqb⟩ := hIB
  have hVBq := II_VB hII
  obtain ⟨nF, m, d, now, top, L, g, hI⟩ := id hII
  obtain ⟨i1, i2, i3, i4, i5, i6, i7, i8, i9, i10, i11⟩ := id hI
  unfold f_Dm_at f_Re_at f_Re_at_27 f_Re_at_28
  have no : f_Re_at_39 wB x1 x2 1 = some (up wB 1 0 1, 0) := by
    unfold f_Re_at_39
    rw [refused_n, bnd_s]
    show (if (if (1 : Int) = 0 then (0 : Int) else 1) = 0 then _ else some (up wB 1 0 1, 0)) = _
    rw [if_neg z10, if_neg z10]
  rcases decl_both i1 x1 with ⟨r, rfl, hr, hd, hA, hB⟩ | ⟨-, hA, hB⟩
  · obtain ⟨N, ρ, c, Lc, n, ρ', c', a1, a2, a3, a4, a5, a6, a7, a8, a9⟩ := i9 now i6.2.2
    have hs := same_hour hI a4 a8
    have hsz := size_same a1 a5 hs hr
    have hlen := a1.len hr
    have h48 := a1.2.1
    have hAt : f_Dm_present wA = some (g now) := present_n i8 i6.2.2 i6.1
    have hkd := kd_ref i8 (k := now) (by omega)
    rcases slotAt_n (x := x2) a1 hr with ⟨p, rfl, hp, hsl⟩ | ⟨hno, hsl⟩
    · have a5' : BMod (up wB 1 0 0) now n ρ' c' := BMod_congr (fun k hk => up10 (by omega)) a5
      have hmem := (a1.2.2.2.1 r _ hr).mp (List.getElem_mem hp)
      have hslot := a1.2.2.2.2.1 _ hmem.1
      have hch := chain_lt i1.1 a1 a2 hr hd
      have hbel := below_len (Lc r) hch p hp
      have hr1 := rows_same a1 a5 hs hr (fun k => k < c (Lc r)[p])
      rw [hbel] at hr1
      obtain ⟨s0, s1, s2, s3⟩ := (hs (r : Int) (c (Lc r)[p])).mp ⟨_, hmem.1, by rw [hmem.2], rfl⟩
      refine ⟨(wA, 0, (c (Lc r)[p] : Int)), (up wB 1 0 0, (c (Lc r)[p] : Int)), ?_, ?_, thrown_n, Or.inl rfl, fun _ => rfl, ⟨nF, m, d, now, top, L, g, Inv_up10 hI⟩, hqb.trans (by first | exact up10_Q hVBq | exact t4 | exact (up10_Q hVBq).trans t4 | exact x4 | exact (up10_Q hVBq).trans x4 | exact y4 | exact (up10_Q hVBq).trans y4 | exact y4.trans (up10_Q y4.2.2.2.2) | exact p5 | exact (up10_Q hVBq).trans p5 | exact (up10_Q hVBq).trans (p4.Q i11) | exact (up10_Q hVBq).trans (p4.Q hVBq))⟩
      · unfold f_Dm_at_24
        rw [hA, bnd_s, if_neg z10, hAt, bnd_s, gd_t hkd, hsl, bnd_s, if_neg (by omega), bnd_s, gd_t hkd, codeOf_n (by omega), bnd_s, hslot.2.1]
      · rw [hB, bnd_s, if_neg z10, sizeOf_n a5 i6.2.1, bnd_s, ← hsz, wr_of (x := ((Lc r).length : Int) - 1) ⟨by omega, by omega⟩, inB_n, bnd_s, if_pos (show (0 : Int) ≤ (p : Int) ∧ (p : Int) ≤ ((Lc r).length : Int) - 1 from ⟨by omega, by omega⟩), if_neg z10]
        unfold f_Re_at_39
        rw [if_neg z10, refused_n, bnd_s]
        show (if (if (0 : Int) = 0 then (0 : Int) else 1) = 0 then f_Re_at_53 (up wB 1 0 0) (r : Int) (p : Int) 0 0 else _) = _
        rw [if_pos (if_pos rfl)]
        refine atB_n a5' (by rw [up10_f (by decide)]; exact i6.2.1) ⟨s0, s1, by omega, s3⟩ hr1.symm (fun s hs1 hs2 hs3 => ?_)
        obtain ⟨x, x1, x2, x3⟩ := (hs (r : Int) (c' s)).mpr ⟨s, hs1, by rw [hs2], rfl⟩
        have hxm := (a1.2.2.2.1 r x hr).mpr ⟨x1, by omega⟩
        obtain ⟨p', hp', ep'⟩ := List.getElem_of_mem hxm
        have hb' := below_len (Lc r) hch p' hp'
        have hr' := rows_same a1 a5 hs hr (fun k => k < c (Lc r)[p'])
        rw [hb', ep', x3, hs3] at hr'
        subst hr'
        rw [ep', x3]
    · have no : f_Re_at_39 wB (r : Int) x2 1 = some (up wB 1 0 1, 0) := no
      refine ⟨(wA, 1, 0), (up wB 1 0 1, 0), ?_, ?_, thrown_n, Or.inr rfl, fun e => n10 e, ⟨nF, m, d, now, top, L, g, Inv_up10 hI⟩, hqb.trans (by first | exact up10_Q hVBq | exact t4 | exact (up10_Q hVBq).trans t4 | exact x4 | exact (up10_Q hVBq).trans x4 | exact y4 | exact (up10_Q hVBq).trans y4 | exact y4.trans (up10_Q y4.2.2.2.2) | exact p5 | exact (up10_Q hVBq).trans p5 | exact (up10_Q hVBq).trans (p4.Q i11) | exact (up10_Q hVBq).trans (p4.Q hVBq))⟩
      · unfold f_Dm_at_24
        rw [hA, bnd_s, if_neg z10, hAt, bnd_s, gd_t hkd, hsl, bnd_s, if_pos rfl]
      · rw [hB, bnd_s, if_neg z10, sizeOf_n a5 i6.2.1, bnd_s, ← hsz, wr_of (x := ((Lc r).length : Int) - 1) ⟨by omega, by omega⟩, inB_n, bnd_s, if_neg (show ¬ ((0 : Int) ≤ x2 ∧ x2 ≤ ((Lc r).length : Int) - 1) from fun z => by have := hno x2.toNat (by omega); omega), if_pos rfl, if_pos rfl, no]
  · refine ⟨(wA, 1, 0), (up wB 1 0 1, 0), ?_, ?_, thrown_n, Or.inr rfl, fun e => n10 e, ⟨nF, m, d, now, top, L, g, Inv_up10 hI⟩, hqb.trans (by first | exact up10_Q hVBq | exact t4 | exact (up10_Q hVBq).trans t4 | exact x4 | exact (up10_Q hVBq).trans x4 | exact y4 | exact (up10_Q hVBq).trans y4 | exact y4.trans (up10_Q y4.2.2.2.2) | exact p5 | exact (up10_Q hVBq).trans p5 | exact (up10_Q hVBq).trans (p4.Q i11) | exact (up10_Q hVBq).trans (p4.Q hVBq))⟩
    · unfold f_Dm_at_24
      rw [hA, bnd_s, if_pos rfl, if_pos rfl]
    · rw [hB, bnd_s, if_pos rfl, if_pos rfl, no]
theorem sq_holdsAnew (b : World) : St_holdsAnew (IB b) := by
  intro wA wB hIB x1 x2 x3 x4 x5 _ _ _ _ _
  obtain ⟨hII, hqb⟩ := hIB
  have hVBq := II_VB hII
  obtain ⟨nF, m, d, now, top, L, g, hI⟩ := id hII
  obtain ⟨i1, i2, i3, i4, i5, i6, i7, i8, i9, i10, i11⟩ := id hI
  have no28 : ∀ x : Int, ¬ x = 0 → f_Re_holdsAt_28 wB x1 x2 x3 x4 x5 x = some (up wB 1 0 x, 0) := fun x hx => by
    unfold f_Re_holdsAt_28
    rw [refused_n, bnd_s]
    show (if (if x = 0 then (0 : Int) else 1) = 0 then _ else some (up wB 1 0 x, 0)) = _
    rw [if_neg hx]
    exact if_neg z10
  unfold f_Dm_holdsAnew f_Re_holdsAnew f_Re_holdsAt
  rcases decl_both i1 x1 with ⟨r, rfl, hr, hd, hA, hB⟩ | ⟨-, hA, hB⟩
  · by_cases q : 0 ≤ x5 ∧ x5 ≤ 3
    · obtain ⟨h, rfl⟩ : ∃ h : Nat, x5 = (h : Int) := ⟨x5.toNat, by omega⟩
      have hh : h < 4 := by omega
      obtain ⟨w', N, ρ, c, Lc, a1, a2, a3, a4, a5⟩ := trialA (hour := (h : Int)) (wo := 0) (x4 := 1) hI.low.S i10
      obtain ⟨hAc, n, ρ', c', b1, b2, b3, b4⟩ := (i9 h hh).A
      have hL : Least (SA wA) (lvf L) (FFA nF wA (h : Int) 0) (RrA m wA) (AM N ρ c) := by
        rcases a5 with ⟨-, z⟩ | ⟨-, hO⟩
        · exact z
        · exact absurd (over_ba hI.low.S b3 b4 hO) (fun z => z)
      have hs := least_both hI.low.S hL b4
      have c98 : ∀ c, c < 98 → w' c = wA c := fun c hc => a2.1 c (Or.inl hc)
      have hS' : WfS w' := WfS_congr (fun c a b k => by rw [c98 c (by omega)]) i1.1
      obtain ⟨v, h1, h2, h3⟩ := tup_same (nA := 0) (nB := 0) (x := x2) (y := x3) (z := x4) hS' (WfT_congr (fun c _ _ => by rw [up10 (x := 0) (w := wB) (show c ≠ 1 by omega)]) i1.T) (by rw [up10 (by decide), c98 3 (by omega)]; exact (i1.2 r hr).1) a3 a4 (BMod_congr (fun k hk => up10 (x := 0) (w := wB) (by omega)) b1) (VCs_3 (up10 (x := 0) (w := wB) (by decide)) b2) hr (by rw [c98 3 (by omega)]; exact hd) hs
      refine ⟨(w', 0, v), (up wB 1 0 0, v), ?_, ?_, thrown_n, Or.inl rfl, fun _ => rfl, fun _ => h3, ⟨nF, m, d, now, top, L, g, Inv_up10 (Inv_q a2 (QBr.refl i11) hI)⟩, hqb.trans (by first | exact up10_Q hVBq | exact t4 | exact (up10_Q hVBq).trans t4 | exact x4 | exact (up10_Q hVBq).trans x4 | exact y4 | exact (up10_Q hVBq).trans y4 | exact y4.trans (up10_Q y4.2.2.2.2) | exact p5 | exact (up10_Q hVBq).trans p5 | exact (up10_Q hVBq).trans (p4.Q i11) | exact (up10_Q hVBq).trans (p4.Q hVBq))⟩
      · rw [hA, bnd_s, if_neg z10, if_neg (show ¬ (h : Int) < 0 by omega), if_pos (show (h : Int) < 4 by omega), a1, bnd_s, h1, bnd_s, gd_t h3]
      · have hat : f_Re_holdsAt_28 wB (r : Int) x2 x3 x4 (h : Int) 0 = some (up wB 1 0 0, v) := by
          unfold f_Re_holdsAt_28
          rw [refused_n, bnd_s]
          show (if (if (0 : Int) = 0 then (0 : Int) else 1) = 0 then bnd (f_Re_hasTuple (up wB 1 0 0) (h : Int) (r : Int) x2 x3 x4) _ else _) = _
          rw [if_pos (if_pos rfl), h2, bnd_s]
          rcases h3 with z | z
          · rw [if_pos z, z]
          · rw [if_neg (by omega), z]
        rw [hB, bnd_s, if_neg z10, inB_n, bnd_s, if_pos q, if_neg z10, hat, bnd_s]
        exact gd_t h3
    · refine ⟨(wA, 2, 0), (up wB 1 0 2, 0), ?_, ?_, thrown_n, Or.inr (Or.inr rfl), fun e => n20 e, fun e => n20 e, ⟨nF, m, d, now, top, L, g, Inv_up10 hI⟩, hqb.trans (by first | exact up10_Q hVBq | exact t4 | exact (up10_Q hVBq).trans t4 | exact x4 | exact (up10_Q hVBq).trans x4 | exact y4 | exact (up10_Q hVBq).trans y4 | exact y4.trans (up10_Q y4.2.2.2.2) | exact p5 | exact (up10_Q hVBq).trans p5 | exact (up10_Q hVBq).trans (p4.Q i11) | exact (up10_Q hVBq).trans (p4.Q hVBq))⟩
      · rw [hA, bnd_s, if_neg z10]
        by_cases q1 : x5 < 0
        · rw [if_pos q1]
        · rw [if_neg q1, if_neg (show ¬ x5 < 4 by omega)]
      · rw [hB, bnd_s, if_neg z10, inB_n, bnd_s, if_neg q, if_pos rfl, no28 2 z20, bnd_s]
        exact gd_t (Or.inl rfl)
  · refine ⟨(wA, 1, 0), (up wB 1 0 1, 0), ?_, ?_, thrown_n, Or.inr (Or.inl rfl), fun e => n10 e, fun e => n10 e, ⟨nF, m, d, now, top, L, g, Inv_up10 hI⟩, hqb.trans (by first | exact up10_Q hVBq | exact t4 | exact (up10_Q hVBq).trans t4 | exact x4 | exact (up10_Q hVBq).trans x4 | exact y4 | exact (up10_Q hVBq).trans y4 | exact y4.trans (up10_Q y4.2.2.2.2) | exact p5 | exact (up10_Q hVBq).trans p5 | exact (up10_Q hVBq).trans (p4.Q i11) | exact (up10_Q hVBq).trans (p4.Q hVBq))⟩
    · rw [hA, bnd_s, if_pos rfl]
    · rw [hB, bnd_s, if_pos rfl, no28 1 z10, bnd_s]
      exact gd_t (Or.inl rfl)
theorem sq_needed (b : World) : St_needed (IB b) := by
  intro wA wB hIB x1 x2 x3 x4 _ _ _ _
  obtain ⟨hII, hqb⟩ := hIB
  have hVBq := II_VB hII
  obtain ⟨nF, m, d, now, top, L, g, hI⟩ := id hII
  obtain ⟨i1, i2, i3, i4, i5, i6, i7, i8, i9, i10, i11⟩ := id hI
  rcases decl_both i1 x1 with ⟨r, rfl, hr, hd, hA, hB⟩ | ⟨-, hA, hB⟩
  · obtain ⟨v, h1, h2, h3⟩ := isin_both (wB' := up wB 1 0 0) (x := x2) (y := x3) (z := x4) hI i6.2.2 hr hd (fun c hc => up10 hc)
    have hA0 : f_Dm_needed wA (r : Int) x2 x3 x4 = f_Dm_needed_42 wA (r : Int) x2 x3 x4 0 v 0 := by
      unfold f_Dm_needed
      rw [hA, bnd_s, if_neg z10, present_n i8 i6.2.2 i6.1, bnd_s, gd_t (kd_ref i8 (by omega)), h1, bnd_s]
    have hB0 : f_Re_needed wB (r : Int) x2 x3 x4 = if v = 0 then some (up wB 1 0 0, 0) else f_Re_needed_32 (up wB 1 0 0) (r : Int) x2 x3 x4 0 0 := by
      unfold f_Re_needed
      rw [noRel_n.1 hB, bnd_s, if_pos rfl]
      have e : up wB 1 0 0 1 1 = (now : Int) := by rw [up10_f (by decide)]; exact i6.2.1
      show bnd (f_Re_hasTuple (up wB 1 0 0) (up wB 1 0 0 1 1) (r : Int) x2 x3 x4) _ = _
      rw [e, h2, bnd_s]
    rcases h3 with z | z
    · refine ⟨(wA, 0, 0), (up wB 1 0 0, 0), ?_, ?_, thrown_n, Or.inl rfl, fun _ => rfl, II_up10 hII, hqb.trans (by first | exact up10_Q hVBq | exact t4 | exact (up10_Q hVBq).trans t4 | exact x4 | exact (up10_Q hVBq).trans x4 | exact y4 | exact (up10_Q hVBq).trans y4 | exact y4.trans (up10_Q y4.2.2.2.2) | exact p5 | exact (up10_Q hVBq).trans p5 | exact (up10_Q hVBq).trans (p4.Q i11) | exact (up10_Q hVBq).trans (p4.Q hVBq))⟩
      · rw [hA0, z]
        unfold f_Dm_needed_42
        refine lp_out ?_
        show f_Dm_needed_42B wA (r : Int) x2 x3 x4 0 0 0 = _
        unfold f_Dm_needed_42B
        rw [if_pos rfl]
      · rw [hB0, if_pos z]
    · have hI0 : Inv nF m d now top L g wA (up wB 1 0 0) := Inv_up10 hI
      obtain ⟨w', u', x, t1, t2, t3, t4, t5⟩ := needed_loop (x2 := x2) (x3 := x3) (x4 := x4) hI0 hr hd nF 0 wA (up wB 1 0 0) 0 (by omega) (QAr.refl i10) (QBr.refl hI0.2.2.2.2.2.2.2.2.2.2) rfl (by decide)
      refine ⟨(w', 0, x), (u', x), ?_, ?_, ?_, Or.inl rfl, fun _ => rfl, ⟨nF, m, d, now, top, L, g, Inv_q t3 t4 hI0⟩, hqb.trans (by first | exact up10_Q hVBq | exact t4 | exact (up10_Q hVBq).trans t4 | exact x4 | exact (up10_Q hVBq).trans x4 | exact y4 | exact (up10_Q hVBq).trans y4 | exact y4.trans (up10_Q y4.2.2.2.2) | exact p5 | exact (up10_Q hVBq).trans p5 | exact (up10_Q hVBq).trans (p4.Q i11) | exact (up10_Q hVBq).trans (p4.Q hVBq))⟩
      · rw [hA0, z]; exact t1
      · rw [hB0, if_neg (by omega)]; exact t2
      · unfold f_Re_thrown
        show some (u' 1 0) = _
        rw [t5]
        simp [up]
        rfl
  · refine ⟨(wA, 1, 0), (up wB 1 0 1, 0), ?_, ?_, thrown_n, Or.inr rfl, fun e => n10 e, II_up10 hII, hqb.trans (by first | exact up10_Q hVBq | exact t4 | exact (up10_Q hVBq).trans t4 | exact x4 | exact (up10_Q hVBq).trans x4 | exact y4 | exact (up10_Q hVBq).trans y4 | exact y4.trans (up10_Q y4.2.2.2.2) | exact p5 | exact (up10_Q hVBq).trans p5 | exact (up10_Q hVBq).trans (p4.Q i11) | exact (up10_Q hVBq).trans (p4.Q hVBq))⟩
    · unfold f_Dm_needed
      rw [hA, bnd_s, if_pos rfl]
    · unfold f_Re_needed
      rw [noRel_n.2 hB, bnd_s]
      exact if_neg z10
theorem sq_broken (b : World) : St_broken (IB b) := by
  intro wA wB hIB
  obtain ⟨hII, hqb⟩ := hIB
  have hVBq := II_VB hII
  obtain ⟨nF, m, d, now, top, L, g, hI⟩ := id hII
  obtain ⟨i1, i2, i3, i4, i5, i6, i7, i8, i9, i10, i11⟩ := id hI
  obtain ⟨⟨N, ρ, c, Lc, a1, a2, a3, a4, -⟩, n, ρ', c', b1, b2, b3, b4⟩ := (i9 now i6.2.2).A
  have hs := least_both hI.low.S a4 b4
  obtain ⟨w', u', y, y1, y2, y3, y4, -⟩ := broken_both hI (kd_ref i8 (by omega)) a1 a2 b1 b2 b3 hs
  refine ⟨(w', y), (up u' 1 0 0, y), ?_, ?_, rfl, ⟨nF, m, d, now, top, L, g, Inv_up10 (Inv_q y3 y4 hI)⟩, hqb.trans (by first | exact up10_Q hVBq | exact t4 | exact (up10_Q hVBq).trans t4 | exact x4 | exact (up10_Q hVBq).trans x4 | exact y4 | exact (up10_Q hVBq).trans y4 | exact y4.trans (up10_Q y4.2.2.2.2) | exact p5 | exact (up10_Q hVBq).trans p5 | exact (up10_Q hVBq).trans (p4.Q i11) | exact (up10_Q hVBq).trans (p4.Q hVBq))⟩
  · unfold f_Dm_broken
    rw [present_n i8 i6.2.2 i6.1, bnd_s, gd_t (kd_ref i8 (by omega)), y1, bnd_s]
  · unfold f_Re_broken f_Re_fine
    rw [i6.2.1, y2, bnd_s, bl_s, bnd_s]
theorem sq_repair (b : World) : St_repair (IB b) := by
  intro wA wB hIB
  obtain ⟨hII, hqb⟩ := hIB
  have hVBq := II_VB hII
  obtain ⟨nF, m, d, now, top, L, g, hI⟩ := id hII
  have hI0 : Inv nF m d now top L g wA (up wB 1 0 0) := Inv_up10 hI
  obtain ⟨i1, i2, i3, i4, i5, i6, i7, i8, i9, i10, i11⟩ := id hI0
  obtain ⟨⟨N, ρ, c, Lc, a1, a2, a3, a4, -⟩, n, ρ', c', b1, b2, b3, b4⟩ := (i9 now i6.2.2).A
  have hs := least_both hI0.low.S a4 b4
  obtain ⟨w1, u1, y, y1, y2, y3, y4, -⟩ := broken_both hI0 (kd_ref i8 (by omega)) a1 a2 b1 b2 b3 hs
  have hA : f_Dm_repair wA = if y = 0 then some (w1, 0) else f_Dm_repair_15 w1 0 := by
    unfold f_Dm_repair
    rw [present_n i8 i6.2.2 i6.1, bnd_s, gd_t (kd_ref i8 (by omega)), y1, bnd_s]
  have hB : f_Re_repair wB = if y = 0 then some (u1, 0) else f_Re_repair_20 u1 0 := by
    unfold f_Re_repair
    rw [bl_s, i6.2.1, y2, bnd_s]
  by_cases hy : y = 0
  · exact ⟨(w1, 0), (u1, 0), by rw [hA, if_pos hy], by rw [hB, if_pos hy], rfl, ⟨nF, m, d, now, top, L, g, Inv_q y3 y4 hI0⟩, hqb.trans (by first | exact up10_Q hVBq | exact t4 | exact (up10_Q hVBq).trans t4 | exact x4 | exact (up10_Q hVBq).trans x4 | exact y4 | exact (up10_Q hVBq).trans y4 | exact y4.trans (up10_Q y4.2.2.2.2) | exact p5 | exact (up10_Q hVBq).trans p5 | exact (up10_Q hVBq).trans (p4.Q i11) | exact (up10_Q hVBq).trans (p4.Q hVBq))⟩
  · obtain ⟨w2, u2, x, x1, x2, x3, x4⟩ := one_rep hI0 nF 0 w1 u1 (by omega) y3 y4
    exact ⟨(w2, x), (u2, x), by rw [hA, if_neg hy]; exact x1, by rw [hB, if_neg hy]; exact x2, rfl, ⟨nF, m, d, now, top, L, g, Inv_q x3 x4 hI0⟩, hqb.trans (by first | exact up10_Q hVBq | exact t4 | exact (up10_Q hVBq).trans t4 | exact x4 | exact (up10_Q hVBq).trans x4 | exact y4 | exact (up10_Q hVBq).trans y4 | exact y4.trans (up10_Q y4.2.2.2.2) | exact p5 | exact (up10_Q hVBq).trans p5 | exact (up10_Q hVBq).trans (p4.Q i11) | exact (up10_Q hVBq).trans (p4.Q hVBq))⟩
theorem sq_joins (b : World) : St_joins (IB b) := by
  intro wA wB hIB x1 _
  obtain ⟨hII, hqb⟩ := hIB
  have hVBq := II_VB hII
  obtain ⟨nF, m, d, now, top, L, g, hI⟩ := id hII
  have hI0 : Inv nF m d now top L g wA (up wB 1 0 0) := Inv_up10 hI
  obtain ⟨i1, i2, i3, -⟩ := id hI0
  have hm : m ≤ 12 := i3.1.2.2.1
  have nA : wA 14 4 = (m : Int) := i3.1.2.1
  have nB : wB 1 14 = (m : Int) := hI.2.2.1.2.1.1
  have ewm : wr ((m : Int) - 1) = (m : Int) - 1 := wr_of (x := (m : Int) - 1) ⟨by omega, by omega⟩
  by_cases q1 : 0 ≤ x1 ∧ x1 ≤ (m : Int) - 1
  · obtain ⟨j, rfl⟩ : ∃ j : Nat, x1 = (j : Int) := ⟨x1.toNat, by omega⟩
    have hj : j < m := by omega
    have hkd : kdA (22 + 4 * j) = 1 := by
      have : ∀ j, j < 12 → kdA (22 + 4 * j) = 1 := by decide +kernel
      exact this j (by omega)
    obtain ⟨rA1, rA2, -⟩ := i3.1.2.2.2.2 j hj
    obtain ⟨⟨-, rT, rB3, rB4⟩, -⟩ := i3.2.1.2.2 j hj
    obtain ⟨k1, -⟩ := i3.2.2 j hj
    obtain ⟨y, y1, y2⟩ := joins_loop hkd i1.1 rT (by omega) (fun r hr => ⟨(i1.2 r hr).1, (i1.2 r hr).2.1, (i1.2 r hr).2.2.1⟩) k1.T rA1 rA2.L rB3 rB4.L (RB wA (22 + 4 * j)).ln 0 0 (by omega) (by omega)
    refine ⟨(wA, 0, y), (up wB 1 0 0, y), ?_, ?_, thrown_n, Or.inl rfl, fun _ => rfl, II_up10 hII, hqb.trans (by first | exact up10_Q hVBq | exact t4 | exact (up10_Q hVBq).trans t4 | exact x4 | exact (up10_Q hVBq).trans x4 | exact y4 | exact (up10_Q hVBq).trans y4 | exact y4.trans (up10_Q y4.2.2.2.2) | exact p5 | exact (up10_Q hVBq).trans p5 | exact (up10_Q hVBq).trans (p4.Q i11) | exact (up10_Q hVBq).trans (p4.Q hVBq))⟩
    · unfold f_Dm_joins f_Pr_hasRule
      rw [if_neg (by omega), nA, if_neg (by omega), bnd_s, if_neg z10, rule_n (by omega) (i3.1.2.2.2.1 j (by omega)), bnd_s]
      exact y1
    · have e5 : wr (5 * (j : Int)) = ((5 * j : Nat) : Int) := by rw [wr_of (x := 5 * (j : Int)) ⟨by omega, by omega⟩]; omega
      unfold f_Re_joins
      rw [nB, ewm, inB_n, bnd_s, if_pos q1, if_neg z10]
      unfold f_Re_joins_20
      rw [refused_n, bnd_s]
      show (if (if (0 : Int) = 0 then (0 : Int) else 1) = 0 then _ else _) = _
      rw [if_pos (if_pos rfl), e5, bl_s]
      exact y2
  · refine no_vq (e := 1) (x := 1) (fun e => e = 0 ∨ e = 1) hII hqb (by decide) ?_ ?_ rfl (Or.inr rfl)
    · unfold f_Dm_joins f_Pr_hasRule
      by_cases q : x1 < 0
      · rw [if_pos q, bnd_s, if_pos rfl]
      · rw [if_neg q, nA, if_pos (by omega), bnd_s, if_pos rfl]
    · unfold f_Re_joins
      rw [nB, ewm, inB_n, bnd_s, if_neg q1, if_pos rfl]
      unfold f_Re_joins_20
      rw [refused_n, bnd_s]
      show (if (if (1 : Int) = 0 then (0 : Int) else 1) = 0 then _ else some (up wB 1 0 1, 0)) = _
      rw [if_neg z10]
      exact if_neg z10
theorem sq_whyNot (b : World) : St_whyNot (IB b) := by
  intro wA wB hIB x1 x2 x3 x4 _ _ _ _
  obtain ⟨hII, hqb⟩ := hIB
  have hVBq := II_VB hII
  obtain ⟨nF, m, d, now, top, L, g, hI⟩ := id hII
  obtain ⟨i1, i2, i3, i4, i5, i6, i7, i8, i9, i10, i11⟩ := id hI
  rcases decl_both i1 x1 with ⟨r, rfl, hr, hd, hA, hB⟩ | ⟨-, hA, hB⟩
  · obtain ⟨vA, pA, qA⟩ := permits_n (so := 0) (x := x2) (y := x3) (z := x4) i1.1 hr (by omega)
    obtain ⟨vB, pB, qB⟩ := areValues_n (fr := 0) (so := 0) (x := x2) (y := x3) (z := x4) i1.T hr (Or.inl ⟨rfl, rfl⟩)
    have e3 : wB 3 r = wA 3 r := (i1.2 r hr).1
    rw [e3] at qB
    by_cases ok : ∀ j, j < 3 → okC 0 (wA 3 r).toNat j (pick x2 x3 x4 j)
    · have vA1 : vA = 1 := by
        rcases qA with ⟨z, -⟩ | ⟨-, z⟩
        · exact z
        · exact absurd ok z
      have vB1 : vB = 1 := by
        rcases qB with ⟨z, -⟩ | ⟨-, z⟩
        · exact z
        · exact absurd ok z
      obtain ⟨a, b, c0, rfl, rfl, rfl, ha, hb, hc0⟩ := ok_pk ok
      obtain ⟨v, h1, h2, h3⟩ := isin_both (wB' := wB) (x := (a : Int)) (y := (b : Int)) (z := (c0 : Int)) hI i6.2.2 hr hd (fun c _ => rfl)
      have hA0 : f_Dm_whyNot wA (r : Int) (a : Int) (b : Int) (c0 : Int) = if v = 0 then f_Dm_whyNot_84 wA (r : Int) (a : Int) (b : Int) (c0 : Int) (-1) (-1) 0 else some (wA, 3, 0) := by
        have pA : f_Sc_permits wA (r : Int) 0 (a : Int) (b : Int) (c0 : Int) = some vA := pA
        unfold f_Dm_whyNot
        rw [hA, bnd_s, if_neg z10, pA, bnd_s, vA1, if_neg z10, present_n i8 i6.2.2 i6.1, bnd_s, gd_t (kd_ref i8 (by omega)), h1, bnd_s]
      have hB0 : f_Re_whyNot wB (r : Int) (a : Int) (b : Int) (c0 : Int) = if v = 0 then f_Re_whyNot_71 wB (r : Int) (a : Int) (b : Int) (c0 : Int) 0 else f_Re_whyNot_71 wB (r : Int) (a : Int) (b : Int) (c0 : Int) 3 := by
        unfold f_Re_whyNot f_Re_whyNot_26
        rw [hB, bnd_s, if_neg z10, pB, bnd_s, vB1, if_neg z10, bnd_s, if_neg z10, if_neg z10, i6.2.1, h2, bnd_s]
      rcases h3 with z | z
      · have hI0 : Inv nF m d now top L g wA (up wB 1 0 0) := Inv_up10 hI
        obtain ⟨w', u', x, t1, t2, t3, t4, t5⟩ := why_loop hI0 hr hd ha hb hc0 m 0 wA (up wB 1 0 0) (-1) (-1) (by omega) (QAr.refl i10) (QBr.refl hI0.2.2.2.2.2.2.2.2.2.2) rfl (by omega)
        refine ⟨(w', 0, x), (u', x), ?_, ?_, ?_, Or.inl rfl, fun _ => rfl, ⟨nF, m, d, now, top, L, g, Inv_q t3 t4 hI0⟩, hqb.trans (by first | exact up10_Q hVBq | exact t4 | exact (up10_Q hVBq).trans t4 | exact x4 | exact (up10_Q hVBq).trans x4 | exact y4 | exact (up10_Q hVBq).trans y4 | exact y4.trans (up10_Q y4.2.2.2.2) | exact p5 | exact (up10_Q hVBq).trans p5 | exact (up10_Q hVBq).trans (p4.Q i11) | exact (up10_Q hVBq).trans (p4.Q hVBq))⟩
        · rw [hA0, if_pos z]; exact t1
        · rw [hB0, if_pos z]
          unfold f_Re_whyNot_71
          rw [refused_n, bnd_s]
          show (if (if (0 : Int) = 0 then (0 : Int) else 1) = 0 then f_Re_whyNot_88 (up wB 1 0 0) (r : Int) (a : Int) (b : Int) (c0 : Int) (-1) (-1) 0 else _) = _
          rw [if_pos (if_pos rfl)]
          exact t2
        · unfold f_Re_thrown
          show some (u' 1 0) = _
          rw [t5]
          simp [up]
          rfl
      · refine ⟨(wA, 3, 0), (up wB 1 0 3, 0), ?_, ?_, thrown_n, Or.inr (Or.inr (Or.inr rfl)), fun e => n30 e, II_up10 hII, hqb.trans (by first | exact up10_Q hVBq | exact t4 | exact (up10_Q hVBq).trans t4 | exact x4 | exact (up10_Q hVBq).trans x4 | exact y4 | exact (up10_Q hVBq).trans y4 | exact y4.trans (up10_Q y4.2.2.2.2) | exact p5 | exact (up10_Q hVBq).trans p5 | exact (up10_Q hVBq).trans (p4.Q i11) | exact (up10_Q hVBq).trans (p4.Q hVBq))⟩
        · rw [hA0, if_neg (by omega)]
        · rw [hB0, if_neg (by omega)]
          unfold f_Re_whyNot_71
          rw [refused_n, bnd_s]
          show (if (if (3 : Int) = 0 then (0 : Int) else 1) = 0 then _ else some (up wB 1 0 3, 0)) = _
          rw [if_neg z30, if_neg z10]
    · have vA0 : vA = 0 := by
        rcases qA with ⟨-, z⟩ | ⟨z, -⟩
        · exact absurd z ok
        · exact z
      have vB0 : vB = 0 := by
        rcases qB with ⟨-, z⟩ | ⟨z, -⟩
        · exact absurd z ok
        · exact z
      refine ⟨(wA, 2, 0), (up wB 1 0 2, 0), ?_, ?_, thrown_n, Or.inr (Or.inr (Or.inl rfl)), fun e => n20 e, II_up10 hII, hqb.trans (by first | exact up10_Q hVBq | exact t4 | exact (up10_Q hVBq).trans t4 | exact x4 | exact (up10_Q hVBq).trans x4 | exact y4 | exact (up10_Q hVBq).trans y4 | exact y4.trans (up10_Q y4.2.2.2.2) | exact p5 | exact (up10_Q hVBq).trans p5 | exact (up10_Q hVBq).trans (p4.Q i11) | exact (up10_Q hVBq).trans (p4.Q hVBq))⟩
      · have pA : f_Sc_permits wA (r : Int) 0 x2 x3 x4 = some vA := pA
        unfold f_Dm_whyNot
        rw [hA, bnd_s, if_neg z10, pA, bnd_s, vA0, if_pos rfl]
      · unfold f_Re_whyNot f_Re_whyNot_25 f_Re_whyNot_26 f_Re_whyNot_71
        rw [hB, bnd_s, if_neg z10, pB, bnd_s, vB0, if_pos rfl, bnd_s, if_neg z10, if_pos rfl, refused_n, bnd_s]
        show (if (if (2 : Int) = 0 then (0 : Int) else 1) = 0 then _ else some (up wB 1 0 2, 0)) = _
        rw [if_neg z20, if_neg z10]
  · refine ⟨(wA, 1, 0), (up wB 1 0 1, 0), ?_, ?_, thrown_n, Or.inr (Or.inl rfl), fun e => n10 e, II_up10 hII, hqb.trans (by first | exact up10_Q hVBq | exact t4 | exact (up10_Q hVBq).trans t4 | exact x4 | exact (up10_Q hVBq).trans x4 | exact y4 | exact (up10_Q hVBq).trans y4 | exact y4.trans (up10_Q y4.2.2.2.2) | exact p5 | exact (up10_Q hVBq).trans p5 | exact (up10_Q hVBq).trans (p4.Q i11) | exact (up10_Q hVBq).trans (p4.Q hVBq))⟩
    · unfold f_Dm_whyNot
      rw [hA, bnd_s, if_pos rfl]
    · unfold f_Re_whyNot f_Re_whyNot_25 f_Re_whyNot_26 f_Re_whyNot_71
      rw [hB, bnd_s, if_pos rfl, bnd_s, if_pos rfl, refused_n, bnd_s]
      show (if (if (1 : Int) = 0 then (0 : Int) else 1) = 0 then _ else some (up wB 1 0 1, 0)) = _
      rw [if_neg z10, if_neg z10]
theorem sq_ways (b : World) : St_ways (IB b) := by
  intro wA wB hIB x1 x2 x3 x4 _ _ _ _
  obtain ⟨hII, hqb⟩ := hIB
  have hVBq := II_VB hII
  obtain ⟨nF, m, d, now, top, L, g, hI⟩ := id hII
  obtain ⟨i1, i2, i3, i4, i5, i6, i7, i8, i9, i10, i11⟩ := id hI
  rcases decl_both i1 x1 with ⟨r, rfl, hr, hd, hA, hB⟩ | ⟨-, hA, hB⟩
  · have hI0 : Inv nF m d now top L g wA (up wB 1 0 0) := Inv_up10 hI
    obtain ⟨j1, j2, j3, j4, j5, j6, j7, j8, j9, j10, j11⟩ := id hI0
    obtain ⟨⟨N, ρ, c, Lc, a1, a2, a3, a4, -⟩, n, ρ', c', b1, b2, b3, b4⟩ := (j9 now j6.2.2).A
    have hs := least_both hI0.low.S a4 b4
    have hdu : 1 ≤ up wB 1 0 0 3 r := by rw [(j1.2 r hr).1]; exact hd
    obtain ⟨vA, hvA, qA⟩ := isInA_n (x := x2) (y := x3) (z := x4) i1.1 a1 a2 hr hd
    obtain ⟨vB, hvB, qB⟩ := hasTuple_n (x := x2) (y := x3) (z := x4) j1.T b1 b2 hr hdu
    have startA : f_Dm_ways wA (r : Int) x2 x3 x4 = if vA = 0 then (some (wA, 0, 0)) else (bnd (f_Dm_packed x2 x3 x4) fun v16 => bnd (f_Dm_waysByFacts wA (r : Int) v16) fun v19 => bnd (f_Dm_waysByRules wA (r : Int) v16) fun v22 => some (v22.1, 0, wr (v19 + v22.2))) := by
      unfold f_Dm_ways
      rw [hA, bnd_s, if_neg z10, present_n i8 i6.2.2 i6.1, bnd_s, gd_t (kd_ref i8 (by omega)), hvA, bnd_s]
    have startB : f_Re_ways wB (r : Int) x2 x3 x4 = if vB = 0 then (some (up wB 1 0 0, 0)) else (bnd (f_Re_place (up wB 1 0 0) (now : Int) (r : Int) x2 x3 x4) fun v14 => f_Re_ways_47 (up wB 1 0 0) (r : Int) v14 0 0) := by
      have e : up wB 1 0 0 1 1 = (now : Int) := j6.2.1
      unfold f_Re_ways
      rw [noRel_n.1 hB, bnd_s, if_pos rfl]
      show bnd (f_Re_hasTuple (up wB 1 0 0) (up wB 1 0 0 1 1) (r : Int) x2 x3 x4) _ = _
      rw [e, hvB, bnd_s]
      show (if vB = 0 then _ else bnd (f_Re_place (up wB 1 0 0) (up wB 1 0 0 1 1) (r : Int) x2 x3 x4) _) = _
      rw [e]
    by_cases hin : Hs (AM N ρ c) (r : Int) x2 x3 x4
    · have hvA1 : vA ≠ 0 := by
        rcases qA with ⟨z, -⟩ | ⟨-, z⟩
        · omega
        · exact absurd hin z
      have hvB1 : vB ≠ 0 := by
        rcases qB with ⟨z, -⟩ | ⟨-, z⟩
        · omega
        · exact absurd ((hs_same hs).mp hin) z
      obtain ⟨k, hkM, hkj⟩ := hin
      obtain ⟨sA, hsA, hρA, hcA⟩ := id hkM
      obtain ⟨s, hsn, hρ, hcs⟩ := (hs _ _).mp hkM
      have hρA : ρ sA = r := by omega
      have hρ : ρ' s = r := by omega
      have hk : k < 2097152 := by have := (a1.2.2.2.2.1 sA hsA).2.2.1; omega
      have hVk : Vc (up wB 1 0 0) r k := by have := b2 s hsn; rw [hρ, hcs] at this; exact this
      have hVkA : Vc wA r k := by have := a2 sA hsA; rw [hρA, hcA] at this; exact this
      have e2 : x2 = ((clm k 0 : Nat) : Int) := (hkj 0 (by omega)).symm
      have e3 : x3 = ((clm k 1 : Nat) : Int) := (hkj 1 (by omega)).symm
      have e4 : x4 = ((clm k 2 : Nat) : Int) := (hkj 2 (by omega)).symm
      have hkA : kz ((SA wA).kq (r : Int)) (c sA) = kz ((SA wA).kq (r : Int)) k := by rw [hcA]
      have hks : kz ((SA (up wB 1 0 0)).kq (r : Int)) (c' s) = kz ((SA (up wB 1 0 0)).kq (r : Int)) k := by rw [hcs]
      have hpk : f_Dm_packed x2 x3 x4 = some (k : Int) := by
        rw [e2, e3, e4, packed_n clm_lt clm_lt clm_lt, clm_pk hk]
      obtain ⟨va, hva, hva2⟩ := slotA_eq (k := k) (m := k) i1.1 a1 hr hd hk hsA hρA hkA
      have hva3 := hva2.mpr rfl
      obtain ⟨vb, hvb, hvb2⟩ := placeB_eq (k := k) (m := k) j1.T b1 b2 hr hdu hk hVk hsn hρ hks
      have hvb3 := hvb2.mpr rfl
      obtain ⟨y, y0, y1, y2⟩ := ways_facts (k := k) hI0 a1 b1 b2 hr hd hsA hρA hkA hsn hρ hks nF 0 0 (by omega) (by omega)
      obtain ⟨w', u', cN, t1, t2, t3, t4, t5, t6⟩ := ways_rules hI0 a1 a2 b1 b2 b3 hs hr hd hk hVk hsn hρ hks m 0 0 y wA (up wB 1 0 0) (by omega) (by omega) (by omega) (QAr.refl j10) (QBr.refl j11) rfl
      have hF : f_Dm_waysByFacts wA (r : Int) (k : Int) = some (y : Int) := by
        unfold f_Dm_waysByFacts
        rw [present_n i8 i6.2.2 i6.1, bnd_s, gd_t (kd_ref i8 (by omega)), hva, bnd_s, hva3]
        exact y1
      have hRl : f_Dm_waysByRules wA (r : Int) (k : Int) = some (w', ((0 + cN : Nat) : Int)) := t1
      refine ⟨(w', 0, ((y + cN : Nat) : Int)), (u', ((y + cN : Nat) : Int)), ?_, ?_, ?_, Or.inl rfl, fun _ => rfl, ⟨nF, m, d, now, top, L, g, Inv_q t3 t4 hI0⟩, hqb.trans (by first | exact up10_Q hVBq | exact t4 | exact (up10_Q hVBq).trans t4 | exact x4 | exact (up10_Q hVBq).trans x4 | exact y4 | exact (up10_Q hVBq).trans y4 | exact y4.trans (up10_Q y4.2.2.2.2) | exact p5 | exact (up10_Q hVBq).trans p5 | exact (up10_Q hVBq).trans (p4.Q i11) | exact (up10_Q hVBq).trans (p4.Q hVBq))⟩
      · rw [startA, if_neg hvA1, hpk, bnd_s, hF, bnd_s, hRl, bnd_s, wr_of (x := (y : Int) + ((0 + cN : Nat) : Int)) ⟨by omega, by omega⟩]
        congr 3
        omega
      · rw [startB, if_neg hvB1, e2, e3, e4, hvb, bnd_s, hvb3]
        show f_Re_ways_47 (up wB 1 0 0) (r : Int) (s : Int) ((0 : Nat) : Int) ((0 : Nat) : Int) = _
        rw [y2]
        exact t2
      · unfold f_Re_thrown
        show some (u' 1 0) = _
        rw [t5]
        simp [up]
        rfl
    · have hvA0 : vA = 0 := by
        rcases qA with ⟨-, z⟩ | ⟨z, -⟩
        · exact absurd z hin
        · exact z
      have hvB0 : vB = 0 := by
        rcases qB with ⟨-, z⟩ | ⟨z, -⟩
        · exact absurd ((hs_same hs).mpr z) hin
        · exact z
      refine ⟨(wA, 0, 0), (up wB 1 0 0, 0), ?_, ?_, thrown_n, Or.inl rfl, fun _ => rfl, II_up10 hII, hqb.trans (by first | exact up10_Q hVBq | exact t4 | exact (up10_Q hVBq).trans t4 | exact x4 | exact (up10_Q hVBq).trans x4 | exact y4 | exact (up10_Q hVBq).trans y4 | exact y4.trans (up10_Q y4.2.2.2.2) | exact p5 | exact (up10_Q hVBq).trans p5 | exact (up10_Q hVBq).trans (p4.Q i11) | exact (up10_Q hVBq).trans (p4.Q hVBq))⟩
      · rw [startA, if_pos hvA0]
      · rw [startB, if_pos hvB0]
  · refine ⟨(wA, 1, 0), (up wB 1 0 1, 0), ?_, ?_, thrown_n, Or.inr rfl, fun e => n10 e, II_up10 hII, hqb.trans (by first | exact up10_Q hVBq | exact t4 | exact (up10_Q hVBq).trans t4 | exact x4 | exact (up10_Q hVBq).trans x4 | exact y4 | exact (up10_Q hVBq).trans y4 | exact y4.trans (up10_Q y4.2.2.2.2) | exact p5 | exact (up10_Q hVBq).trans p5 | exact (up10_Q hVBq).trans (p4.Q i11) | exact (up10_Q hVBq).trans (p4.Q hVBq))⟩
    · unfold f_Dm_ways
      rw [hA, bnd_s, if_pos rfl]
    · unfold f_Re_ways
      rw [noRel_n.2 hB, bnd_s]
      exact if_neg z10
theorem sq_cheapest (b : World) : St_cheapest (IB b) := by
  intro wA wB hIB x1 x2 x3 x4 _ _ _ _
  obtain ⟨hII, hqb⟩ := hIB
  have hVBq := II_VB hII
  obtain ⟨nF, m, d, now, top, L, g, hI⟩ := id hII
  obtain ⟨i1, i2, i3, i4, i5, i6, i7, i8, i9, i10, i11⟩ := id hI
  rcases decl_both i1 x1 with ⟨r, rfl, hr, hd, hA, hB⟩ | ⟨-, hA, hB⟩
  · have hI0 : Inv nF m d now top L g wA (up wB 1 0 0) := Inv_up10 hI
    obtain ⟨j1, j2, j3, j4, j5, j6, j7, j8, j9, j10, j11⟩ := id hI0
    obtain ⟨w', u', N, n, ρ, c, ρ', c', Lc, C, p1, p2, p3, p4, p5, p6, p7, p8, p9, p10, p11, p12, p13, p14⟩ := cheap_both hI0
    have hkt := kd_ref i8 (k := now) (by omega)
    obtain ⟨k1, k2, k3, k4, k5, k6, k7, k8, k9, k10, k11⟩ := id p4
    obtain ⟨⟨N0, ρ0, c0, Lc0, a1, a2, a3, a4, -⟩, n0, ρ0', c0', b1, b2, b3, b4⟩ := (j9 now j6.2.2).A
    have hs0 := least_both hI0.low.S a4 b4
    have hdu : 1 ≤ up wB 1 0 0 3 r := by rw [(j1.2 r hr).1]; exact hd
    have hdw : 1 ≤ w' 3 r := by rw [p3 3 (by omega) (by omega) (by omega)]; exact hd
    have hdu' : 1 ≤ u' 3 r := by rw [(k1.2 r hr).1]; exact hdw
    have hkt' := kd6 hkt
    have hkt2 := kd6_hi hkt
    obtain ⟨vA, hvA, qA⟩ := isInA_n (x := x2) (y := x3) (z := x4) i1.1 a1 a2 hr hd
    obtain ⟨vB, hvB, qB⟩ := hasTuple_n (x := x2) (y := x3) (z := x4) j1.T b1 b2 hr hdu
    have startA : f_Dm_cheapest wA (r : Int) x2 x3 x4 = if vA = 0 then (some (wA, 0, (-1))) else (bnd (f_Dm_packed x2 x3 x4) fun v22 => bnd (f_Mo_slotLike w' (g now) (r : Int) v22) fun v26 => bnd (f_Co_costOf w' v26) fun v29 => some (w', 0, v29)) := by
      unfold f_Dm_cheapest
      rw [hA, bnd_s, if_neg z10, present_n i8 i6.2.2 i6.1, bnd_s, gd_t hkt, hvA, bnd_s, p1, bnd_s, present_n k8 k6.2.2 k6.1, bnd_s]
      by_cases q : vA = 0
      · rw [if_pos q, if_pos q]
      · rw [if_neg q, if_neg q]
        refine congrArg (bnd _) (funext fun v22 => ?_)
        rw [gd_t hkt]
    have startB : f_Re_cheapest wB (r : Int) x2 x3 x4 = if vB = 0 then (some (up wB 1 0 0, (-1))) else (bnd (f_Re_place u' (now : Int) (r : Int) x2 x3 x4) fun v17 => gd (0 ≤ v17 ∧ v17 < 50) (some (u', u' 26 v17.toNat))) := by
      have e : up wB 1 0 0 1 1 = (now : Int) := j6.2.1
      unfold f_Re_cheapest
      rw [noRel_n.1 hB, bnd_s, if_pos rfl]
      show bnd (f_Re_hasTuple (up wB 1 0 0) (up wB 1 0 0 1 1) (r : Int) x2 x3 x4) _ = _
      rw [e, hvB, bnd_s]
      show (if vB = 0 then _ else bnd (f_Re_findCosts (up wB 1 0 0)) _) = _
      rw [p2, bnd_s, k6.2.1]
    by_cases hin : Hs (AM N0 ρ0 c0) (r : Int) x2 x3 x4
    · have hvA1 : vA ≠ 0 := by
        rcases qA with ⟨z, -⟩ | ⟨-, z⟩
        · omega
        · exact absurd hin z
      have hvB1 : vB ≠ 0 := by
        rcases qB with ⟨z, -⟩ | ⟨-, z⟩
        · omega
        · exact absurd ((hs_same hs0).mp hin) z
      obtain ⟨k, hkM, hkj⟩ := hin
      -- the models of now stay as they were
      have hAw : AMod w' (g now) N0 ρ0 c0 Lc0 := p3.M hkt a1
      have hkM' : AM N ρ c (r : Int) k := by
        obtain ⟨⟨N2, ρ2, c2, Lc2, e1, e2, e3, e4, -⟩, n2, ρ2', c2', f1, f2, f3, f4⟩ := (k9 now k6.2.2).A
        have h98 : ∀ c, c < 98 → w' c = wA c := fun c hc => p3 c (by omega) (by omega) (by omega)
        have hm12 : m ≤ 12 := i3.1.2.2.1
        have hAMN : ∀ s, s < N0 ↔ s < N := fun s => by
          have h1 := hAw.1
          have h2 := p7.1
          omega
        obtain ⟨s, hs, hρ, hc⟩ := hkM
        have hsN := (hAMN s).mp hs
        have g1 := hAw.2.2.2.2.1 s hs
        have g2 := p7.2.2.2.2.1 s hsN
        have hcc : c s = c0 s := by have := g1.2.1; have := g2.2.1; omega
        have hseg : ∀ r, r < 10 → ∀ l l' : List Nat, ∀ a : Int, seg (w' (g now + 2)) a l → seg (w' (g now + 2)) a l' → l = l' := fun r _ => by
          intro l
          induction l with
          | nil =>
            intro l' a h1 h2
            cases l' with
            | nil => rfl
            | cons b l' =>
              have h1 : a = -1 := h1
              have h2 := h2.1
              omega
          | cons b l ih =>
            intro l' a h1 h2
            cases l' with
            | nil =>
              have h2 : a = -1 := h2
              have h1 := h1.1
              omega
            | cons b' l' =>
              have e : b' = b := by have := h1.1; have := h2.1; omega
              subst e
              rw [ih l' _ h1.2 h2.2]
        have hL1 := hseg r hr _ _ _ (hAw.2.2.1 r hr) (p7.2.2.1 r hr)
        have hm1 := (hAw.2.2.2.1 r s hr).mpr ⟨hs, by omega⟩
        rw [hL1] at hm1
        have := (p7.2.2.2.1 r s hr).mp hm1
        exact ⟨s, this.1, by omega, by rw [hcc, hc]⟩
      obtain ⟨sA, hsA, hρA, hcA⟩ := id hkM'
      obtain ⟨s, hsn, hρ, hcs⟩ := (p12 _ _).mp hkM'
      have hρA : ρ sA = r := by omega
      have hρ : ρ' s = r := by omega
      have hk : k < 2097152 := by have := (p7.2.2.2.2.1 sA hsA).2.2.1; omega
      have hVk : Vc u' r k := by have := p10 s hsn; rw [hρ, hcs] at this; exact this
      have e2 : x2 = ((clm k 0 : Nat) : Int) := (hkj 0 (by omega)).symm
      have e3 : x3 = ((clm k 1 : Nat) : Int) := (hkj 1 (by omega)).symm
      have e4 : x4 = ((clm k 2 : Nat) : Int) := (hkj 2 (by omega)).symm
      have hpk : f_Dm_packed x2 x3 x4 = some (k : Int) := by
        rw [e2, e3, e4, packed_n clm_lt clm_lt clm_lt, clm_pk hk]
      obtain ⟨va, hva, hva2⟩ := slotA_eq (k := k) (m := k) k1.1 p7 hr hdw hk hsA hρA (by rw [hcA])
      have hva3 := hva2.mpr rfl
      obtain ⟨vb, hvb, hvb2⟩ := placeB_eq (k := k) (m := k) k1.T p9 p10 hr hdu' hk hVk hsn hρ (by rw [hcs])
      have hvb3 := hvb2.mpr rfl
      have hcA2 : f_Co_costOf w' (sA : Int) = some ((C (r : Int) k : Nat) : Int) := by
        have hN := p7.2.1
        unfold f_Co_costOf
        rw [if_neg (by omega), if_neg (by omega), gd_t ⟨by omega, by omega⟩, Int.toNat_natCast, p13 sA hsA, hρA, hcA]
      refine ⟨(w', 0, ((C (r : Int) k : Nat) : Int)), (u', ((C (r : Int) k : Nat) : Int)), ?_, ?_, ?_, Or.inl rfl, fun _ => rfl, ⟨nF, m, d, now, top, L, g, p4⟩, hqb.trans (by first | exact up10_Q hVBq | exact t4 | exact (up10_Q hVBq).trans t4 | exact x4 | exact (up10_Q hVBq).trans x4 | exact y4 | exact (up10_Q hVBq).trans y4 | exact y4.trans (up10_Q y4.2.2.2.2) | exact p5 | exact (up10_Q hVBq).trans p5 | exact (up10_Q hVBq).trans (p4.Q i11) | exact (up10_Q hVBq).trans (p4.Q hVBq))⟩
      · rw [startA, if_neg hvA1, hpk, bnd_s, hva, bnd_s, hva3, hcA2, bnd_s]
      · rw [startB, if_neg hvB1, e2, e3, e4, hvb, bnd_s, hvb3, gd_t ⟨by omega, by omega⟩, Int.toNat_natCast, p14 s hsn, hρ, hcs]
      · unfold f_Re_thrown
        show some (u' 1 0) = _
        rw [p6]
        simp [up]
        rfl
    · have hvA0 : vA = 0 := by
        rcases qA with ⟨-, z⟩ | ⟨z, -⟩
        · exact absurd z hin
        · exact z
      have hvB0 : vB = 0 := by
        rcases qB with ⟨-, z⟩ | ⟨z, -⟩
        · exact absurd ((hs_same hs0).mpr z) hin
        · exact z
      refine ⟨(wA, 0, -1), (up wB 1 0 0, -1), ?_, ?_, thrown_n, Or.inl rfl, fun _ => rfl, II_up10 hII, hqb.trans (by first | exact up10_Q hVBq | exact t4 | exact (up10_Q hVBq).trans t4 | exact x4 | exact (up10_Q hVBq).trans x4 | exact y4 | exact (up10_Q hVBq).trans y4 | exact y4.trans (up10_Q y4.2.2.2.2) | exact p5 | exact (up10_Q hVBq).trans p5 | exact (up10_Q hVBq).trans (p4.Q i11) | exact (up10_Q hVBq).trans (p4.Q hVBq))⟩
      · rw [startA, if_pos hvA0]
      · rw [startB, if_pos hvB0]
  · refine ⟨(wA, 1, 0), (up wB 1 0 1, 0), ?_, ?_, thrown_n, Or.inr rfl, fun e => n10 e, II_up10 hII, hqb.trans (by first | exact up10_Q hVBq | exact t4 | exact (up10_Q hVBq).trans t4 | exact x4 | exact (up10_Q hVBq).trans x4 | exact y4 | exact (up10_Q hVBq).trans y4 | exact y4.trans (up10_Q y4.2.2.2.2) | exact p5 | exact (up10_Q hVBq).trans p5 | exact (up10_Q hVBq).trans (p4.Q i11) | exact (up10_Q hVBq).trans (p4.Q hVBq))⟩
    · unfold f_Dm_cheapest
      rw [hA, bnd_s, if_pos rfl]
    · unfold f_Re_cheapest
      rw [noRel_n.2 hB, bnd_s]
      exact if_neg z10
theorem sq_order (b : World) : St_order (IB b) := by
  intro wA wB hIB x1 x2 _ _
  obtain ⟨hII, hqb⟩ := hIB
  have hVBq := II_VB hII
  obtain ⟨nF, m, d, now, top, L, g, hI⟩ := id hII
  have hI0 : Inv nF m d now top L g wA (up wB 1 0 0) := Inv_up10 hI
  obtain ⟨i1, i2, i3, i4, i5, i6, i7, i8, i9, i10, i11⟩ := id hI0
  have hm : m ≤ 12 := i3.1.2.2.1
  have nA : wA 14 4 = (m : Int) := i3.1.2.1
  have nB : wB 1 14 = (m : Int) := hI.2.2.1.2.1.1
  have ewm : wr ((m : Int) - 1) = (m : Int) - 1 := wr_of (x := (m : Int) - 1) ⟨by omega, by omega⟩
  by_cases q1 : (0 ≤ x1 ∧ x1 ≤ (m : Int) - 1) ∧ 0 ≤ x2
  · obtain ⟨j, rfl⟩ : ∃ j : Nat, x1 = (j : Int) := ⟨x1.toNat, by omega⟩
    obtain ⟨i, rfl⟩ : ∃ i : Nat, x2 = (i : Int) := ⟨x2.toNat, by omega⟩
    have hj : j < m := by omega
    have hkd : kdA (22 + 4 * j) = 1 := kd_rule j (by omega)
    obtain ⟨w', u', a, q, p1, p2, p3, p4, p5, ⟨p6, p7⟩, ⟨p8, p9⟩, p10⟩ := plan_both hI0 hj
    obtain ⟨y, hy⟩ : ∃ y : Int, y = if i < a then (q i).1 else -1 := ⟨_, rfl⟩
    refine ⟨(w', 0, y), (u', y), ?_, ?_, ?_, Or.inl rfl, fun _ => rfl, ⟨nF, m, d, now, top, L, g, Inv_q (p3.Q i10) (p4.Q i11) hI0⟩, hqb.trans (by first | exact up10_Q hVBq | exact t4 | exact (up10_Q hVBq).trans t4 | exact x4 | exact (up10_Q hVBq).trans x4 | exact y4 | exact (up10_Q hVBq).trans y4 | exact y4.trans (up10_Q y4.2.2.2.2) | exact p5 | exact (up10_Q hVBq).trans p5 | exact (up10_Q hVBq).trans (p4.Q i11) | exact (up10_Q hVBq).trans (p4.Q hVBq))⟩
    · unfold f_Dm_order f_Pr_hasRule f_Pl_placeAt
      rw [if_neg (by omega), nA, if_neg (by omega), bnd_s, if_neg z10, if_pos (by omega), rule_n (by omega) (i3.1.2.2.2.1 j (by omega)), bnd_s, gd_t hkd, p1, bnd_s, if_neg (by omega), p6]
      by_cases h : i < a
      · rw [if_neg (by omega), if_neg (by omega), gd_t ⟨by omega, by omega⟩, bnd_s, Int.toNat_natCast, (p7 i h).1, hy, if_pos h]
      · rw [if_pos (by omega), bnd_s, hy, if_neg h]
    · unfold f_Re_order
      rw [nB, ewm, inB_n, bnd_s, if_pos q1.1, if_neg z10, if_neg (by omega)]
      unfold f_Re_order_23 f_Re_order_34
      rw [if_neg z10, refused_n, bnd_s]
      show (if (if (0 : Int) = 0 then (0 : Int) else 1) = 0 then bnd (f_Re_makePlan (up wB 1 0 0) (j : Int)) _ else _) = _
      rw [if_pos (if_pos rfl), p2, bnd_s, p8]
      by_cases h : i < a
      · rw [if_neg (by omega), gd_t ⟨by omega, by omega⟩, Int.toNat_natCast, (p9 i h).1, hy, if_pos h]
      · rw [if_pos (by omega), hy, if_neg h]
    · unfold f_Re_thrown
      show some (u' 1 0) = _
      rw [p4 1 0 (by decide) (by decide) (by decide)]
      simp [up]
      rfl
  · refine no_vq (e := 1) (x := 1) (fun e => e = 0 ∨ e = 1) hII hqb (by decide) ?_ ?_ rfl (Or.inr rfl)
    · unfold f_Dm_order f_Pr_hasRule
      by_cases q : x1 < 0
      · rw [if_pos q, bnd_s, if_pos rfl]
      · rw [if_neg q, nA]
        by_cases h : (m : Int) ≤ x1
        · rw [if_pos h, bnd_s, if_pos rfl]
        · rw [if_neg h, bnd_s, if_neg z10, if_neg (by omega)]
    · have e34 : f_Re_order_34 wB x1 x2 1 = some (up wB 1 0 1, 0) := by
        unfold f_Re_order_34
        rw [refused_n, bnd_s]
        show (if (if (1 : Int) = 0 then (0 : Int) else 1) = 0 then _ else some (up wB 1 0 1, 0)) = _
        rw [if_neg z10]
        exact if_neg z10
      have e22 : f_Re_order_22 wB x1 x2 = some (up wB 1 0 1, 0) := by
        unfold f_Re_order_22 f_Re_order_23
        rw [if_pos rfl, e34]
      unfold f_Re_order
      rw [nB, ewm, inB_n, bnd_s]
      by_cases h : 0 ≤ x1 ∧ x1 ≤ (m : Int) - 1
      · rw [if_pos h, if_neg z10, if_pos (by omega), e22]
      · rw [if_neg h, if_pos rfl, e22]
theorem sq_indexes (b : World) : St_indexes (IB b) := by
  intro wA wB hIB x1 _
  obtain ⟨hII, hqb⟩ := hIB
  have hVBq := II_VB hII
  obtain ⟨nF, m, d, now, top, L, g, hI⟩ := id hII
  obtain ⟨i1, -⟩ := id hI
  rcases decl_both i1 x1 with ⟨r, rfl, hr, hd, hA, hB⟩ | ⟨-, hA, hB⟩
  · have hI0 : Inv nF m d now top L g wA (up wB 1 0 0) := Inv_up10 hI
    obtain ⟨w', u', y, t1, t2, t3, t4, t5⟩ := index_loop (r := (r : Int)) hI0 m 0 0 wA (up wB 1 0 0) (by omega) (by omega) (QAr.refl hI0.2.2.2.2.2.2.2.2.2.1) (QBr.refl hI0.2.2.2.2.2.2.2.2.2.2) rfl
    refine ⟨(w', 0, y), (u', y), ?_, ?_, ?_, Or.inl rfl, fun _ => rfl, ⟨nF, m, d, now, top, L, g, Inv_q t3 t4 hI0⟩, hqb.trans (by first | exact up10_Q hVBq | exact t4 | exact (up10_Q hVBq).trans t4 | exact x4 | exact (up10_Q hVBq).trans x4 | exact y4 | exact (up10_Q hVBq).trans y4 | exact y4.trans (up10_Q y4.2.2.2.2) | exact p5 | exact (up10_Q hVBq).trans p5 | exact (up10_Q hVBq).trans (p4.Q i11) | exact (up10_Q hVBq).trans (p4.Q hVBq))⟩
    · unfold f_Dm_indexes
      rw [hA, bnd_s, if_neg z10]
      exact t1
    · unfold f_Re_indexes
      rw [noRel_n.1 hB, bnd_s, if_pos rfl]
      exact t2
    · unfold f_Re_thrown
      show some (u' 1 0) = _
      rw [t5]
      simp [up]
      rfl
  · refine ⟨(wA, 1, 0), (up wB 1 0 1, 0), ?_, ?_, thrown_n, Or.inr rfl, fun e => n10 e, II_up10 hII, hqb.trans (by first | exact up10_Q hVBq | exact t4 | exact (up10_Q hVBq).trans t4 | exact x4 | exact (up10_Q hVBq).trans x4 | exact y4 | exact (up10_Q hVBq).trans y4 | exact y4.trans (up10_Q y4.2.2.2.2) | exact p5 | exact (up10_Q hVBq).trans p5 | exact (up10_Q hVBq).trans (p4.Q i11) | exact (up10_Q hVBq).trans (p4.Q hVBq))⟩
    · unfold f_Dm_indexes
      rw [hA, bnd_s, if_pos rfl]
    · unfold f_Re_indexes
      rw [noRel_n.2 hB, bnd_s]
      exact if_neg z10
theorem sq_goals (b : World) : St_goals (IB b) := by
  intro wA wB hIB x1 x2 x3 x4 _ _ _ _
  obtain ⟨hII, hqb⟩ := hIB
  have hVBq := II_VB hII
  obtain ⟨nF, m, d, now, top, L, g, hI⟩ := id hII
  obtain ⟨i1, i2, i3, i4, i5, i6, i7, i8, i9, i10, i11⟩ := id hI
  rcases decl_both i1 x1 with ⟨r, rfl, hr, hd, hA, hB⟩ | ⟨-, hA, hB⟩
  · obtain ⟨vA, pA, qA⟩ := permits_n (so := 2) (x := x2) (y := x3) (z := x4) i1.1 hr (by omega)
    obtain ⟨vB, pB, qB⟩ := areValues_n (fr := 1) (so := 2) (x := x2) (y := x3) (z := x4) i1.T hr (Or.inr ⟨rfl, rfl⟩)
    have e3 : wB 3 r = wA 3 r := (i1.2 r hr).1
    rw [e3] at qB
    by_cases ok : ∀ j, j < 3 → okC 2 (wA 3 r).toNat j (pick x2 x3 x4 j)
    · have vA1 : vA = 1 := by
        rcases qA with ⟨z, -⟩ | ⟨-, z⟩
        · exact z
        · exact absurd ok z
      have vB1 : vB = 1 := by
        rcases qB with ⟨z, -⟩ | ⟨-, z⟩
        · exact z
        · exact absurd ok z
      have hI0 : Inv nF m d now top L g wA (up wB 1 0 0) := Inv_up10 hI
      obtain ⟨wA', wB', n, t1, t2, t3, t4, t5⟩ := goals_both hI0 hr hd ok
      refine ⟨(wA', 0, n), (wB', n), ?_, ?_, ?_, Or.inl rfl, fun _ => rfl, ⟨nF, m, d, now, top, L, g, Inv_q t3 t4 hI0⟩, hqb.trans (by first | exact up10_Q hVBq | exact t4 | exact (up10_Q hVBq).trans t4 | exact x4 | exact (up10_Q hVBq).trans x4 | exact y4 | exact (up10_Q hVBq).trans y4 | exact y4.trans (up10_Q y4.2.2.2.2) | exact p5 | exact (up10_Q hVBq).trans p5 | exact (up10_Q hVBq).trans (p4.Q i11) | exact (up10_Q hVBq).trans (p4.Q hVBq))⟩
      · have pA : f_Sc_permits wA (r : Int) 2 x2 x3 x4 = some vA := pA
        unfold f_Dm_goals
        rw [hA, bnd_s, if_neg z10, pA, bnd_s, vA1, if_neg z10]
        exact t1
      · unfold f_Re_goals f_Re_goals_26 f_Re_goals_51
        rw [hB, bnd_s, if_neg z10, pB, bnd_s, vB1, if_neg z10, bnd_s, if_neg z10, if_neg z10, refused_n, bnd_s]
        show (if (if (0 : Int) = 0 then (0 : Int) else 1) = 0 then (bl (up (up wB 1 0 0) 1 32 0) fun w6 => bnd (f_Re_ask w6 (r : Int) x2 x3 x4) fun v8 => f_Re_goals_76 v8 0) else _) = _
        rw [if_pos (if_pos rfl), bl_s]
        exact t2
      · unfold f_Re_thrown
        show some (wB' 1 0) = _
        rw [t5]
        simp [up]
        rfl
    · have vA0 : vA = 0 := by
        rcases qA with ⟨-, z⟩ | ⟨z, -⟩
        · exact absurd z ok
        · exact z
      have vB0 : vB = 0 := by
        rcases qB with ⟨-, z⟩ | ⟨z, -⟩
        · exact absurd z ok
        · exact z
      refine ⟨(wA, 2, 0), (up wB 1 0 2, 0), ?_, ?_, thrown_n, Or.inr (Or.inr rfl), fun e => n20 e, II_up10 hII, hqb.trans (by first | exact up10_Q hVBq | exact t4 | exact (up10_Q hVBq).trans t4 | exact x4 | exact (up10_Q hVBq).trans x4 | exact y4 | exact (up10_Q hVBq).trans y4 | exact y4.trans (up10_Q y4.2.2.2.2) | exact p5 | exact (up10_Q hVBq).trans p5 | exact (up10_Q hVBq).trans (p4.Q i11) | exact (up10_Q hVBq).trans (p4.Q hVBq))⟩
      · have pA : f_Sc_permits wA (r : Int) 2 x2 x3 x4 = some vA := pA
        unfold f_Dm_goals
        rw [hA, bnd_s, if_neg z10, pA, bnd_s, vA0, if_pos rfl]
      · unfold f_Re_goals f_Re_goals_25 f_Re_goals_26 f_Re_goals_51
        rw [hB, bnd_s, if_neg z10, pB, bnd_s, vB0, if_pos rfl, bnd_s, if_neg z10, if_pos rfl, refused_n, bnd_s]
        show (if (if (2 : Int) = 0 then (0 : Int) else 1) = 0 then _ else some (up wB 1 0 2, 0)) = _
        rw [if_neg z20, if_neg z10]
  · refine ⟨(wA, 1, 0), (up wB 1 0 1, 0), ?_, ?_, thrown_n, Or.inr (Or.inl rfl), fun e => n10 e, II_up10 hII, hqb.trans (by first | exact up10_Q hVBq | exact t4 | exact (up10_Q hVBq).trans t4 | exact x4 | exact (up10_Q hVBq).trans x4 | exact y4 | exact (up10_Q hVBq).trans y4 | exact y4.trans (up10_Q y4.2.2.2.2) | exact p5 | exact (up10_Q hVBq).trans p5 | exact (up10_Q hVBq).trans (p4.Q i11) | exact (up10_Q hVBq).trans (p4.Q hVBq))⟩
    · unfold f_Dm_goals
      rw [hA, bnd_s, if_pos rfl]
    · unfold f_Re_goals f_Re_goals_25 f_Re_goals_26 f_Re_goals_51
      rw [hB, bnd_s, if_pos rfl, bnd_s, if_pos rfl, refused_n, bnd_s]
      show (if (if (1 : Int) = 0 then (0 : Int) else 1) = 0 then _ else some (up wB 1 0 1, 0)) = _
      rw [if_neg z10, if_neg z10]
