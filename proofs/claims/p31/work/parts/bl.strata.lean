/-! BOTH: strata anew -/
def LowR (nF m d now : Nat) (wA wB : World) : Prop := ISch wA wB ∧ IFac nF wA wB ∧ IRul m wA wB ∧ IDen d wA wB ∧ IDrf wA wB ∧ (wA 1 12 = (now : Int) ∧ wB 1 1 = (now : Int) ∧ now < 4)
theorem Low.R {nF m d now top : Nat} {L : Nat → Nat} {wA wB : World} (h : Low nF m d now top L wA wB) : LowR nF m d now wA wB := ⟨h.1, h.2.1, h.2.2.1, h.2.2.2.1, h.2.2.2.2.1, h.2.2.2.2.2.1⟩
theorem LowR_fr {nF m d now : Nat} {wA wB wA' wB' : World} (hA : FrL wA wA') (hB : FrS wB wB') (h : LowR nF m d now wA wB) : LowR nF m d now wA' wB' := by
  obtain ⟨i1, i2, i3, i4, i5, i6⟩ := h
  have aC : ∀ c, c ≠ 21 → c ≠ 14 → wA' c = wA c := fun c h1 h2 => hA.cell h1 h2
  have a14 : ∀ k, k ≠ 7 → wA' 14 k = wA 14 k := fun k hk => hA 14 k (by decide) (fun z => hk z.2)
  have hRBB : ∀ j, RBB wB' j = RBB wB j := fun j => hB.R j
  have hE : ∀ j, RE (RBB wB j) (RBB wB' j) := fun j => by rw [hRBB]; exact RE.refl
  have h16 : ∀ j, wB' 16 j = wB 16 j := fun j => by rw [hB 16 (by omega)]
  have c35 : ∀ c, 3 ≤ c → c ≤ 5 → wB' c = wB c := fun c h1 h2 => hB c (by omega)
  have dn : ∀ b, 22 ≤ b → DnA wA b → DnA wA' b := fun b h1 h => by
    unfold DnA
    rw [hA.RB h1, hA.SA, aC b (by omega) (by omega)]
    exact h
  refine ⟨⟨hA.wf i1.1, ?_⟩, ?_, ?_, ?_, ?_, by rw [aC 1 (by omega) (by omega), hB 1 (by omega)]; exact i6⟩
  · rw [hB 3 (by omega), hB 4 (by omega), hB 5 (by omega), hB 2 (by omega), aC 3 (by omega) (by omega), aC 4 (by omega) (by omega), aC 5 (by omega) (by omega)]
    exact i1.2
  · exact IFac_congr (aC 3 (by omega) (by omega)) (fun c _ _ => aC c (by omega) (by omega)) (hB 3 (by omega)) (fun c _ _ => hB c (by omega)) (by rw [hB 1 (by omega)]) i2
  · obtain ⟨r1, r2, r3⟩ := i3
    refine ⟨r1.fr hA, ?_, fun j hj => ?_⟩
    · obtain ⟨p1, p2, p3⟩ := r2
      exact ⟨by rw [hB 1 (by omega)]; exact p1, p2, fun j hj => ⟨RuB_E (hE j) (h16 j) c35 (p3 j hj).1, Rng_E (hE j) (p3 j hj).2⟩⟩
    · rw [hA.RB (by omega), hRBB, hB 13 (by omega), aC _ (by omega) (by omega)]
      exact r3 j hj
  · obtain ⟨d1, d2, d3, d4, d5⟩ := i4
    refine ⟨by rw [a14 5 (by omega)]; exact d1, by rw [hB 1 (by omega)]; exact d2, d3, by rw [aC 20 (by omega) (by omega)]; exact d4, fun j hj => ?_⟩
    obtain ⟨e1, e2, e3, e4, e5⟩ := d5 j hj
    refine ⟨dn _ (by omega) e1, RuBL_E (hE _).T (h16 _) c35 e2, ?_⟩
    rw [hA.RB (by omega), hRBB]
    exact ⟨e3, e4, e5⟩
  · obtain ⟨e1, e2, e3, e4, e5, e6⟩ := i5
    refine ⟨dn _ (by omega) e1, RuBL_E (hE _).T (h16 _) c35 e2, ?_⟩
    rw [hA.RB (b := 94) (by omega), hRBB, hB 14 (by omega), aC 94 (by omega) (by omega), aC 3 (by omega) (by omega)]
    exact ⟨e3, e4, e5, e6⟩
theorem wf_RrA {m : Nat} {wA wB : World} (h : IRul m wA wB) : ∀ R, RrA m wA R → WfR (SA wA) R := by
  rintro R ⟨i, hi, -, rfl⟩
  exact (h.1.2.2.2.2 i hi).2.1
theorem rng_RrA {m : Nat} {wA wB : World} (h : IRul m wA wB) : ∀ R, RrA m wA R → Rng R := by
  rintro R ⟨i, hi, -, rfl⟩
  exact (h.1.2.2.2.2 i hi).rng
theorem both_strata {nF m d now : Nat} {wA wB : World} (h : LowR nF m d now wA wB) : ∃ w' v L top u', f_Pr_stratify wA = some (w', v) ∧ f_Re_layer wB = some (u', v) ∧ FrL wA w' ∧ FrS wB u' ∧ StR (SA wA) (RrA m wA) L v ∧ (v = 1 → Low nF m d now top L w' u') := by
  obtain ⟨i1, i2, i3, i4, i5, i6⟩ := id h
  obtain ⟨w', v, L, top, s1, s2, s3, s4, s5⟩ := stratify_n i3.1
  obtain ⟨u', v', L', t1, t2, t3, t4⟩ := layer_n i3.2.1
  rw [i1.SA] at t4
  obtain ⟨e1, e2⟩ := StR_same i1.1.D (wf_RrA i3) (rng_RrA i3) i3.RS s4 t4
  refine ⟨w', v, L, top, u', s1, by rw [e1]; exact t1, s2, t2, s4, fun hv => ?_⟩
  obtain ⟨x1, x2, x3, x4, x5, x6⟩ := LowR_fr s2 t2 h
  have hR : RrA m w' = RrA m wA := by
    unfold RrA
    rw [s2.FA, s2.GA]
  refine ⟨x1, x2, x3, x4, x5, x6, s3, fun q hq => by rw [(e2 hv).1 q hq]; exact t3 q hq, s5 hv, ?_⟩
  rw [hR, s2.SA]
  refine ⟨?_, s4.1⟩
  rcases s4.2 with ⟨-, z⟩ | ⟨z, -⟩
  · exact z
  · rw [hv] at z; exact absurd z (by decide)
theorem lvf_eq {L L' : Nat → Nat} (h : ∀ q, q < 10 → L' q = L q) : lvf L' = lvf L := by
  funext r
  unfold lvf
  by_cases q : 0 ≤ r ∧ r < 10
  · rw [if_pos q, if_pos q, h _ (by omega)]
  · rw [if_neg q, if_neg q]
theorem HAc_lvf {nF m t now h : Nat} {L L' : Nat → Nat} {w : World} (e : lvf L' = lvf L) (hA : HAc nF m L w t now h) : HAc nF m L' w t now h := by
  unfold HAc
  rw [e]
  exact hA
/-- strata of rules that have some within nine -/
theorem StR.one {D : SH} {RR : RU → Prop} {L L0 : Nat → Nat} {v : Int} (h : StR D RR L v) (h0 : SolL D RR (lvf L0)) (h9 : ∀ q, q < 10 → L0 q < 10) : v = 1 ∧ ∀ q, q < 10 → L q ≤ L0 q := by
  have hle : ∀ q, q < 10 → L q ≤ L0 q := fun q hq => by
    have := h.1 _ h0 q hq
    rw [lvf_n hq] at this
    exact this
  refine ⟨?_, hle⟩
  rcases h.2 with ⟨z, -⟩ | ⟨-, q, hq, h10⟩
  · exact z
  · have := hle q hq
    have := h9 q hq
    omega
/-- strata taken back are as before -/
theorem both_again {nF m d now top0 : Nat} {L0 g : Nat → Nat} {wA0 wB0 wA wB : World} (h0 : Low nF m d now top0 L0 wA0 wB0) (hR : LowR nF m d now wA wB) (hRr : RrA m wA = RrA m wA0) (hSA : SA wA = SA wA0) (hr : IRef g wA) (hV : VV (wA 104)) (hVB : VB wB) (hA : ∀ h, h < 4 → HAc nF m L0 wA (g h) now h) :
    ∃ w' v u' u2 top L, f_Pr_stratify wA = some (w', v) ∧ f_Re_layer wB = some (u', v) ∧ f_Re_buildAll u' = some (u2, 1) ∧ Inv nF m d now top L g w' u2 := by
  obtain ⟨w', v, L, top, u', s1, s2, s3, s4, s5, s6⟩ := both_strata hR
  obtain ⟨l1, l2, l3, l4, l5⟩ := h0.2.2.2.2.2.2
  have hm : m ≤ 12 := hR.2.2.1.1.2.2.1
  obtain ⟨hv, hle⟩ := s5.one (by rw [hRr, hSA]; exact l4) (fun q hq => by have := l1.2.2.1 q hq; omega)
  have hLow := s6 hv
  have hsol : SolL (SA wA0) (RrA m wA0) (lvf L) := by
    rcases s5.2 with ⟨-, z⟩ | ⟨z, -⟩
    · rw [hRr, hSA] at z; exact z
    · rw [hv] at z; exact absurd z (by decide)
  have e : lvf L = lvf L0 := lvf_eq (fun q hq => by
    have a := hle q hq
    have b := l5 _ hsol q hq
    rw [lvf_n hq] at b
    omega)
  have hR2 : RrA m w' = RrA m wA := by
    unfold RrA
    rw [s3.FA, s3.GA]
  have aC : ∀ c, c ≠ 21 → c ≠ 14 → w' c = wA c := fun c h1 h2 => s3.cell h1 h2
  obtain ⟨u2, b1, b2, b3⟩ := both_back (g := g) hLow ⟨hr.1, hr.2.1, by rw [aC 108 (by omega) (by omega), aC 109 (by omega) (by omega)]; exact hr.2.2⟩ (by rw [aC 104 (by omega) (by omega)]; exact hV) (VB_congr (s4 23 (by omega)) (s4 24 (by omega)) hVB) (fun h h4 => by
    have hg := hr.rng (i := h) (by omega)
    refine HAc_lvf e (HAc_g (nF' := nF) (m' := m) (w' := w') (hA h h4) (fun c _ _ => aC c (by omega) (by omega)) (fun c _ _ => aC c (by omega) (by omega)) (fun r k => ?_) (by rw [hR2]; exact RS.refl) (Or.inr ⟨by rw [aC 150 (by omega) (by omega)], aC 151 (by omega) (by omega), ?_⟩))
    · unfold FFA FaC
      rw [aC 8 (by omega) (by omega), aC 9 (by omega) (by omega), aC 11 (by omega) (by omega), aC 12 (by omega) (by omega), aC 13 (by omega) (by omega)]
    · unfold FCA FaC
      rw [aC 8 (by omega) (by omega), aC 9 (by omega) (by omega), aC 10 (by omega) (by omega), aC 11 (by omega) (by omega), aC 12 (by omega) (by omega), aC 13 (by omega) (by omega)])
  exact ⟨w', v, u', u2, top, L, s1, s2, b1, b3⟩
