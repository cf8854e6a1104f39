/-! BOTH: indexes, all rules -/
def sxA (q : Nat → Int × Nat) (sj : Nat → Int) (r : Int) : Nat → Nat
  | 0 => 0
  | t + 1 => sxA q sj r t ||| (if sj (q t).1.toNat = r then 2 ^ (q t).2 else 0)
def sxB (q : Nat → Int × Nat) (sj : Nat → Int) (r : Int) : Nat → Nat
  | 0 => 0
  | t + 1 => sxB q sj r t ||| (if sj (q t).1.toNat = r ∧ (q t).2 ≠ 0 then 2 ^ (q t).2 else 0)
theorem or_half : ∀ s, s < 8 → ∀ a, a < 256 → (a ||| 2 ^ s) / 2 * 2 = if s = 0 then a / 2 * 2 else a / 2 * 2 ||| 2 ^ s := by decide +kernel
theorem and_m2 : ∀ a : Nat, a < 256 → iand (a : Int) (-2) = ((a / 2 * 2 : Nat) : Int) := by decide +kernel
theorem sx_lt {q : Nat → Int × Nat} {sj : Nat → Int} {r : Int} : ∀ t, (∀ i, i < t → (q i).2 < 8) → sxA q sj r t < 256 ∧ sxB q sj r t < 256 := by
  intro t
  induction t with
  | zero => intro _; show 0 < 256 ∧ 0 < 256; omega
  | succ t ih =>
    intro h
    obtain ⟨h1, h2⟩ := ih (fun i hi => h i (by omega))
    have h3 := h t (by omega)
    have h4 : 2 ^ (q t).2 < 256 := Nat.lt_of_le_of_lt (Nat.pow_le_pow_right (by omega) (show (q t).2 ≤ 7 by omega)) (by decide)
    unfold sxA sxB
    refine ⟨Nat.or_lt_two_pow (n := 8) h1 ?_, Nat.or_lt_two_pow (n := 8) h2 ?_⟩
    · split <;> omega
    · split <;> omega
theorem sx_same {q : Nat → Int × Nat} {sj : Nat → Int} {r : Int} : ∀ t, (∀ i, i < t → (q i).2 < 8) → sxA q sj r t / 2 * 2 = sxB q sj r t := by
  intro t
  induction t with
  | zero => intro _; show (0 : Nat) / 2 * 2 = 0; omega
  | succ t ih =>
    intro h
    have h1 := ih (fun i hi => h i (by omega))
    have h2 := (sx_lt (q := q) (sj := sj) (r := r) t (fun i hi => h i (by omega))).1
    have h3 := h t (by omega)
    unfold sxA sxB
    by_cases e : sj (q t).1.toNat = r
    · rw [if_pos e, or_half _ h3 _ h2, h1]
      by_cases z : (q t).2 = 0
      · rw [if_pos z, if_neg (fun y => y.2 z), Nat.or_zero]
      · rw [if_neg z, if_pos ⟨e, z⟩]
    · rw [if_neg e, if_neg (fun y => e y.1), Nat.or_zero, Nat.or_zero, h1]
theorem searchesA_n {w : World} {b a : Nat} {r : Int} {q : Nat → Int × Nat} (ha : a ≤ 3) (h155 : w 155 0 = (a : Int)) (hq : ∀ i, i < a → w 156 i = (q i).1 ∧ w 157 i = (((q i).2 : Nat) : Int)) (hp : ∀ i, i < a → ∃ p : Nat, p < 5 ∧ (q i).1 = (p : Int) ∧ (q i).2 < 8) : f_Pl_searchesOf w b r = some ((sxB q (RB w b).sj r a : Nat) : Int) := by
  have h8 : ∀ i, i < a → (q i).2 < 8 := fun i hi => (hp i hi).choose_spec.2.2
  rw [← sx_same (sj := (RB w b).sj) (r := r) a h8]
  unfold f_Pl_searchesOf f_Pl_searchesOf_5
  refine lp_go (F := fun z : (Int × Int) => f_Pl_searchesOf_5B w b r z.1 z.2) (fun t => (((sxA q (RB w b).sj r t : Nat) : Int), (t : Int))) _ a (fun t ht => ?_) ?_
  · show f_Pl_searchesOf_5B w b r ((sxA q (RB w b).sj r t : Nat) : Int) (t : Int) = some (Sum.inl (((sxA q (RB w b).sj r (t + 1) : Nat) : Int), ((t + 1 : Nat) : Int)))
    obtain ⟨p, hp5, hp1, hp2⟩ := hp t ht
    obtain ⟨hq1, hq2⟩ := hq t ht
    have hlt := (sx_lt (q := q) (sj := (RB w b).sj) (r := r) t (fun i hi => h8 i (by omega))).1
    have h4 : 2 ^ (q t).2 < 256 := Nat.lt_of_le_of_lt (Nat.pow_le_pow_right (by omega) (show (q t).2 ≤ 7 by omega)) (by decide)
    have hpl : f_Pl_placeAt w (t : Int) = some (p : Int) := by
      unfold f_Pl_placeAt
      rw [if_neg (by omega), h155, if_neg (by omega), if_neg (by omega), gd_t ⟨by omega, by omega⟩, Int.toNat_natCast, hq1, hp1]
    have e50 : ∀ y : Int, f_Pl_searchesOf_50 w b r y (t : Int) = some (Sum.inl (y, ((t + 1 : Nat) : Int))) := fun y => by
      unfold f_Pl_searchesOf_50
      rw [bl_s, wr_of (x := (t : Int) + 1) ⟨by omega, by omega⟩]
      rfl
    have hbk : ishl 1 ((((q t).2 : Nat)) : Int) = ((2 ^ (q t).2 : Nat) : Int) := bit_k (by omega)
    have esj : w (b + 2) p = (RB w b).sj (q t).1.toNat := by rw [hp1, Int.toNat_natCast]; rfl
    have hsx : sxA q (RB w b).sj r (t + 1) = sxA q (RB w b).sj r t ||| (if (RB w b).sj (q t).1.toNat = r then 2 ^ (q t).2 else 0) := rfl
    unfold f_Pl_searchesOf_5B
    rw [h155, if_neg (by omega), if_neg (by omega), hpl, bnd_s, subjectOf_n hp5, bnd_s, esj, gd_t ⟨by omega, by omega⟩, Int.toNat_natCast, hq2, hbk, ior_n (by omega) (by omega), bl_s, e50, e50, hsx]
    by_cases e : (RB w b).sj (q t).1.toNat = r
    · rw [if_pos e, if_pos e]
    · rw [if_neg e, if_neg e, Nat.or_zero]
  · show f_Pl_searchesOf_5B w b r ((sxA q (RB w b).sj r a : Nat) : Int) (a : Int) = _
    have hlt := (sx_lt (q := q) (sj := (RB w b).sj) (r := r) a h8).1
    unfold f_Pl_searchesOf_5B f_Pl_searchesOf_56
    rw [h155, if_pos (Int.le_refl _), bnd_s, and_m2 _ hlt]
theorem searchesB_n {w : World} {ru a x : Nat} {r : Int} {q : Nat → Int × Nat} (hru : ru < 12) (ha : a ≤ 3) (hx : x < 256) (h35 : w 1 35 = (a : Int)) (hq : ∀ i, i < a → w 29 i = (q i).1 ∧ w 30 i = (((q i).2 : Nat) : Int)) (hp : ∀ i, i < a → ∃ p : Nat, p < 5 ∧ (q i).1 = (p : Int) ∧ (q i).2 < 8) : f_Re_indexes_39 w r (x : Int) (ru : Int) 0 = some (Sum.inl (w, ((x ||| sxB q (RBB w ru).sj r a : Nat) : Int), ((ru + 1 : Nat) : Int))) := by
  have h8 : ∀ i, i < a → (q i).2 < 8 := fun i hi => (hp i hi).choose_spec.2.2
  unfold f_Re_indexes_39
  have h := lp_go (F := fun z : (Int × Int) => f_Re_indexes_39B w r z.1 (ru : Int) z.2) (fun t => (((x ||| sxB q (RBB w ru).sj r t : Nat) : Int), (t : Int))) (Sum.inl (w, ((x ||| sxB q (RBB w ru).sj r a : Nat) : Int), ((ru + 1 : Nat) : Int))) a (fun t ht => ?_) ?_
  · have h : lp (fun z : (Int × Int) => f_Re_indexes_39B w r z.1 (ru : Int) z.2) (((x ||| 0 : Nat) : Int), ((0 : Nat) : Int)) = _ := h
    rw [Nat.or_zero] at h
    exact h
  · show f_Re_indexes_39B w r ((x ||| sxB q (RBB w ru).sj r t : Nat) : Int) (ru : Int) (t : Int) = some (Sum.inl (((x ||| sxB q (RBB w ru).sj r (t + 1) : Nat) : Int), ((t + 1 : Nat) : Int)))
    obtain ⟨p, hp5, hp1, hp2⟩ := hp t ht
    obtain ⟨hq1, hq2⟩ := hq t ht
    have hlt := (sx_lt (q := q) (sj := (RBB w ru).sj) (r := r) t (fun i hi => h8 i (by omega))).2
    have hxl : x ||| sxB q (RBB w ru).sj r t < 256 := Nat.or_lt_two_pow (n := 8) hx hlt
    have h4 : 2 ^ (q t).2 < 256 := Nat.lt_of_le_of_lt (Nat.pow_le_pow_right (by omega) (show (q t).2 ≤ 7 by omega)) (by decide)
    have i1 : wr ((wr (5 * (ru : Int))) + (p : Int)) = ((5 * ru + p : Nat) : Int) := by
      rw [wr_of (x := 5 * (ru : Int)) ⟨by omega, by omega⟩, wr_of (x := 5 * (ru : Int) + (p : Int)) ⟨by omega, by omega⟩]
      omega
    have e92 : ∀ y : Nat, y < 256 → f_Re_indexes_92 w r (ru : Int) (t : Int) ((x ||| sxB q (RBB w ru).sj r t : Nat) : Int) (y : Int) = some (Sum.inl (((x ||| sxB q (RBB w ru).sj r t ||| y : Nat) : Int), ((t + 1 : Nat) : Int))) := fun y hy => by
      unfold f_Re_indexes_92
      rw [bl_s, bl_s, ior_n (by omega) (by omega), wr_of (x := (t : Int) + 1) ⟨by omega, by omega⟩]
      rfl
    have e91 : f_Re_indexes_91 w r (ru : Int) (t : Int) ((x ||| sxB q (RBB w ru).sj r t : Nat) : Int) = some (Sum.inl (((x ||| sxB q (RBB w ru).sj r t : Nat) : Int), ((t + 1 : Nat) : Int))) := by
      have := e92 0 (by omega)
      rw [Nat.or_zero] at this
      exact this
    have hbk : ishl 1 ((((q t).2 : Nat)) : Int) = ((2 ^ (q t).2 : Nat) : Int) := bit_k (by omega)
    have esj : w 18 (5 * ru + p) = (RBB w ru).sj (q t).1.toNat := by rw [hp1, Int.toNat_natCast]; rfl
    have hsx : x ||| sxB q (RBB w ru).sj r (t + 1) = x ||| sxB q (RBB w ru).sj r t ||| (if (RBB w ru).sj (q t).1.toNat = r ∧ (q t).2 ≠ 0 then 2 ^ (q t).2 else 0) := (Nat.or_assoc _ _ _).symm
    unfold f_Re_indexes_39B
    rw [h35, if_neg (by omega), gd_t ⟨by omega, by omega⟩, Int.toNat_natCast, hq1, hp1, i1, gd_t ⟨by omega, by omega⟩, Int.toNat_natCast, esj, gd_t ⟨by omega, by omega⟩, hq2, gd_t ⟨by omega, by omega⟩, hbk, e92 _ h4, e91, hsx]
    by_cases e : (RBB w ru).sj (q t).1.toNat = r
    · rw [if_pos e]
      by_cases z : (q t).2 = 0
      · rw [if_pos (by omega), if_neg (fun y => y.2 z), Nat.or_zero]
      · rw [if_neg (by omega), if_pos ⟨e, z⟩]
    · rw [if_neg e, if_neg (fun y => e y.1), Nat.or_zero]
  · show f_Re_indexes_39B w r ((x ||| sxB q (RBB w ru).sj r a : Nat) : Int) (ru : Int) (a : Int) = _
    unfold f_Re_indexes_39B f_Re_indexes_100
    rw [h35, if_pos (Int.le_refl _), bl_s, wr_of (x := (ru : Int) + 1) ⟨by omega, by omega⟩, bnd_s]
    rfl
theorem sx_congr {q : Nat → Int × Nat} {sj sj' : Nat → Int} {r : Int} : ∀ t, (∀ i, i < t → sj' (q i).1.toNat = sj (q i).1.toNat) → sxB q sj' r t = sxB q sj r t := by
  intro t
  induction t with
  | zero => intro _; rfl
  | succ t ih =>
    intro h
    unfold sxB
    rw [ih (fun i hi => h i (by omega)), h t (by omega)]
theorem index_loop {nF m d now top : Nat} {L g : Nat → Nat} {wA wB : World} {r : Int} (hI : Inv nF m d now top L g wA wB) : ∀ (j kk x : Nat) (w u : World), kk + j = m → x < 256 → QAr wA w → QBr wB u → u 1 0 = wB 1 0 →
    ∃ w' u' y, f_Dm_indexes_25 w r (x : Int) (kk : Int) = some (w', 0, y) ∧ f_Re_indexes_14 u r (x : Int) (kk : Int) = some (u', y) ∧ QAr wA w' ∧ QBr wB u' ∧ u' 1 0 = wB 1 0 := by
  intro j
  induction j with
  | zero =>
    intro kk x w u hkk hx hA hB hz
    have hJ := Inv_q hA hB hI
    have nA : w 14 4 = (m : Int) := hJ.2.2.1.1.2.1
    have nB : u 1 14 = (m : Int) := hJ.2.2.1.2.1.1
    obtain ⟨v, hv1, hv2⟩ := fewest_both (w := w) (u := u) (x := (x : Int)) 64 0 6 (by omega) (by omega)
    have hv1' : f_Dm_fewestOrders w (x : Int) = some v := hv1
    have hv2' : f_Re_indexes_112 u (x : Int) 6 0 = some (u, v) := hv2
    refine ⟨w, u, v, ?_, ?_, hA, hB, hz⟩
    · unfold f_Dm_indexes_25
      refine lp_out ?_
      show f_Dm_indexes_25B w r (x : Int) (kk : Int) = _
      unfold f_Dm_indexes_25B
      rw [nA, if_pos (by omega), hv1', bnd_s]
    · unfold f_Re_indexes_14
      refine lp_out ?_
      show f_Re_indexes_14B u r (x : Int) (kk : Int) = _
      unfold f_Re_indexes_14B
      rw [nB, if_pos (by omega), hv2', bnd_s]
  | succ j ih =>
    intro kk x w u hkk hx hA hB hz
    have hJ := Inv_q hA hB hI
    obtain ⟨i1, i2, i3, i4, i5, i6, i7, i8, i9, i10, i11⟩ := id hJ
    have hkm : kk < m := by omega
    have hm12 : m ≤ 12 := i3.1.2.2.1
    have nA : w 14 4 = (m : Int) := i3.1.2.1
    have nB : u 1 14 = (m : Int) := i3.2.1.1
    have hkd : kdA (22 + 4 * kk) = 1 := kd_rule kk (by omega)
    have hrl := rule_n (w := w) (show kk < 12 by omega) (i3.1.2.2.2.1 kk (by omega))
    obtain ⟨k1, k2, -⟩ := i3.2.2 kk hkm
    have hln5 : (RB w (22 + 4 * kk)).ln ≤ 5 := ((i3.1.2.2.2.2 kk hkm).2.1).1
    have go : ∀ (w1 u1 : World) (x1 : Nat), x1 < 256 → f_Dm_indexes_25B w r (x : Int) (kk : Int) = some (Sum.inl (w1, (x1 : Int), ((kk + 1 : Nat) : Int))) → f_Re_indexes_14B u r (x : Int) (kk : Int) = some (Sum.inl (u1, (x1 : Int), ((kk + 1 : Nat) : Int))) → QAr wA w1 → QBr wB u1 → u1 1 0 = wB 1 0 → ∃ w' u' y, f_Dm_indexes_25 w r (x : Int) (kk : Int) = some (w', 0, y) ∧ f_Re_indexes_14 u r (x : Int) (kk : Int) = some (u', y) ∧ QAr wA w' ∧ QBr wB u' ∧ u' 1 0 = wB 1 0 := fun w1 u1 x1 h1 h2 h3 h4 h5 h6 => by
      obtain ⟨w', u', y, t1, t2, t3⟩ := ih (kk + 1) x1 w1 u1 (by omega) h1 h4 h5 h6
      refine ⟨w', u', y, ?_, ?_, t3⟩
      · rw [← t1]
        unfold f_Dm_indexes_25
        exact lp_step (F := fun z : (World × Int × Int) => f_Dm_indexes_25B z.1 r z.2.1 z.2.2) (s := (w, (x : Int), (kk : Int))) h2
      · rw [← t2]
        unfold f_Re_indexes_14
        exact lp_step (F := fun z : (World × Int × Int) => f_Re_indexes_14B z.1 r z.2.1 z.2.2) (s := (u, (x : Int), (kk : Int))) h3
    have e80 : ∀ (v : World) (y : Int), f_Dm_indexes_80 v r y (kk : Int) = some (Sum.inl (v, y, ((kk + 1 : Nat) : Int))) := fun v y => by
      unfold f_Dm_indexes_80
      rw [bl_s, wr_of (x := (kk : Int) + 1) ⟨by omega, by omega⟩]
      rfl
    have e100 : ∀ (v : World) (y : Int), f_Re_indexes_100 v r y (kk : Int) = some (Sum.inl (v, y, ((kk + 1 : Nat) : Int))) := fun v y => by
      unfold f_Re_indexes_100
      rw [bl_s, wr_of (x := (kk : Int) + 1) ⟨by omega, by omega⟩]
      rfl
    by_cases act : w (22 + 4 * kk) 2 = 0
    · obtain ⟨w1, u1, a, q, p1, p2, p3, p4, p5, ⟨p6, p7⟩, ⟨p8, p9⟩, p10⟩ := plan_both hJ hkm
      have hp5 : ∀ i, i < a → ∃ p : Nat, p < 5 ∧ (q i).1 = (p : Int) ∧ (q i).2 < 8 := fun i hi => by
        obtain ⟨p, hp, e1, e2⟩ := p10 i hi
        exact ⟨p, by omega, e1, e2⟩
      have h8 : ∀ i, i < a → (q i).2 < 8 := fun i hi => (hp5 i hi).choose_spec.2.2
      have hsA := searchesA_n (w := w1) (b := 22 + 4 * kk) (r := r) p5 p6 p7 hp5
      have hsB := searchesB_n (w := u1) (ru := kk) (r := r) (by omega) p5 hx p8 p9 hp5
      have hRA : RB w1 (22 + 4 * kk) = RB w (22 + 4 * kk) := p3.R hkd
      have hRB : RBB u1 kk = RBB u kk := p4.R kk
      have hsx : sxB q (RBB u kk).sj r a = sxB q (RB w (22 + 4 * kk)).sj r a := sx_congr a (fun i hi => by
        obtain ⟨p, hp, e1, e2⟩ := p10 i hi
        rw [e1, Int.toNat_natCast]
        exact (k1.2.1 p hp).2.1)
      rw [hRA] at hsA
      rw [hRB, hsx] at hsB
      have hlt := (sx_lt (q := q) (sj := (RB w (22 + 4 * kk)).sj) (r := r) a h8).2
      refine go w1 u1 (x ||| sxB q (RB w (22 + 4 * kk)).sj r a) (Nat.or_lt_two_pow (n := 8) hx hlt) ?_ ?_ (hA.trans (p3.Q i10)) (hB.trans (p4.Q i11)) ((p4 1 0 (by decide) (by decide) (by decide)).trans hz)
      · unfold f_Dm_indexes_25B
        rw [nA, if_neg (by omega), hrl, bnd_s, gd_t hkd, if_pos act, p1, bnd_s, hsA, bnd_s, ior_n (by omega) (by omega), bl_s, e80]
      · unfold f_Re_indexes_14B
        rw [nB, if_neg (by omega), gd_t ⟨by omega, by omega⟩, Int.toNat_natCast, k2, if_pos act, p2, bnd_s]
        exact hsB
    · refine go w u x hx ?_ ?_ hA hB hz
      · unfold f_Dm_indexes_25B
        rw [nA, if_neg (by omega), hrl, bnd_s, gd_t hkd, if_neg act, e80]
      · unfold f_Re_indexes_14B
        rw [nB, if_neg (by omega), gd_t ⟨by omega, by omega⟩, Int.toNat_natCast, k2, if_neg act, e100]
theorem st_indexes : St_indexes II := by
  intro wA wB hII x1 _
  obtain ⟨nF, m, d, now, top, L, g, hI⟩ := id hII
  obtain ⟨i1, -⟩ := id hI
  rcases decl_both i1 x1 with ⟨r, rfl, hr, hd, hA, hB⟩ | ⟨-, hA, hB⟩
  · have hI0 : Inv nF m d now top L g wA (up wB 1 0 0) := Inv_up10 hI
    obtain ⟨w', u', y, t1, t2, t3, t4, t5⟩ := index_loop (r := (r : Int)) hI0 m 0 0 wA (up wB 1 0 0) (by omega) (by omega) (QAr.refl hI0.2.2.2.2.2.2.2.2.2.1) (QBr.refl hI0.2.2.2.2.2.2.2.2.2.2) rfl
    refine ⟨(w', 0, y), (u', y), ?_, ?_, ?_, Or.inl rfl, fun _ => rfl, nF, m, d, now, top, L, g, Inv_q t3 t4 hI0⟩
    · unfold f_Dm_indexes
      rw [hA, bnd_s, if_neg z10]
      exact t1
    · unfold f_Re_indexes
      rw [noRel_n.1 hB, bnd_s, if_pos rfl]
      exact t2
    · unfold f_Re_thrown
      show some (u' 1 0) = _
      rw [t5]
      simp [up]
      rfl
  · refine ⟨(wA, 1, 0), (up wB 1 0 1, 0), ?_, ?_, thrown_n, Or.inr rfl, fun e => n10 e, II_up10 hII⟩
    · unfold f_Dm_indexes
      rw [hA, bnd_s, if_pos rfl]
    · unfold f_Re_indexes
      rw [noRel_n.2 hB, bnd_s]
      exact if_neg z10
