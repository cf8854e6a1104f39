/-! BOTH: a relation more -/
def GrD (D D' : SH) (q : Int) : Prop := D.co q = 0 ∧ ∀ r, r ≠ q → D'.co r = D.co r ∧ D'.ki r = D.ki r
theorem GrD.kqq {D D' : SH} {q r : Int} (h : GrD D D' q) (hr : r ≠ q) : D'.kq r = D.kq r := by
  unfold SH.kq; rw [(h.2 r hr).1, (h.2 r hr).2]
theorem GrD.nq {D D' : SH} {q r : Int} (h : GrD D D' q) (h1 : 1 ≤ D.co r) : r ≠ q := fun e => by
  have := h.1
  rw [e] at h1; omega
theorem GrD.leq {D D' : SH} {q r : Int} {n m : Nat} (h : GrD D D' q) (hr : r ≠ q) : le D' r n m ↔ le D r n m := by
  unfold le
  rw [h.kqq hr, (h.2 r hr).1, (h.2 r hr).2]
theorem GrD.wfL {D D' : SH} {q : Int} {R : RU} (h : GrD D D' q) (hR : WfL D R) : WfL D' R := by
  obtain ⟨a1, a2, a3, a4, a5⟩ := hR
  refine ⟨a1, a2, fun p hp hf => ?_, a4, a5⟩
  obtain ⟨x, y⟩ := a3 p hp hf
  rw [(h.2 _ (h.nq x)).1]
  exact ⟨x, y⟩
theorem GrD.wfR {D D' : SH} {q : Int} {R : RU} (h : GrD D D' q) (hR : WfR D R) : WfR D' R := by
  obtain ⟨a1, a2, a3, a4, a5, a6, a7⟩ := hR
  refine ⟨a1, a2, fun p hp hf => ?_, a4, ?_, a6, a7⟩
  · obtain ⟨x, y⟩ := a3 p hp hf
    rw [(h.2 _ (h.nq x)).1]
    exact ⟨x, y⟩
  · rw [(h.2 _ (h.nq a5.1)).1]
    exact a5
theorem GrD.grq {D D' : SH} {q : Int} {R : RU} {p : Nat} (h : GrD D D' q) (hR : WfR D R) (hp : p < R.ln) (hf : R.fm p ≤ 1) : Gr D' R p ↔ Gr D R p := by
  have hs := h.2 _ (h.nq (hR.2.2.1 p hp hf).1)
  have ht := h.2 _ (h.nq hR.2.2.2.2.1.1)
  unfold Gr
  rw [hs.1, hs.2, ht.1, ht.2]
theorem GrD.sol {D D' : SH} {q : Int} {RR : RU → Prop} {lv : Int → Nat} (h : GrD D D' q) (hR : ∀ R, RR R → WfR D R) (hS : SolL D RR lv) : SolL D' RR lv := by
  intro R hRR p hp hf
  have hs := h.2 _ (h.nq ((hR R hRR).2.2.1 p hp hf).1)
  have e : abv D' R p ↔ abv D R p := by
    unfold abv
    rw [hs.2, h.grq (hR R hRR) hp hf]
  have := hS R hRR p hp hf
  by_cases q : abv D R p
  · rw [av_1 q] at this; rw [av_1 (e.mpr q)]; exact this
  · rw [av_0 q] at this; rw [av_0 (fun z => q (e.mp z))]; exact this
theorem GrD.solr {D D' : SH} {q : Int} {RR : RU → Prop} {lv : Int → Nat} (h : GrD D D' q) (hR : ∀ R, RR R → WfR D R) (hS : SolL D' RR lv) : SolL D RR lv := by
  intro R hRR p hp hf
  have hs := h.2 _ (h.nq ((hR R hRR).2.2.1 p hp hf).1)
  have e : abv D' R p ↔ abv D R p := by
    unfold abv
    rw [hs.2, h.grq (hR R hRR) hp hf]
  have := hS R hRR p hp hf
  by_cases q : abv D R p
  · rw [av_1 (e.mpr q)] at this; rw [av_1 q]; exact this
  · rw [av_0 (fun z => q (e.mp z))] at this; rw [av_0 q]; exact this
theorem GrD.cost {D D' : SH} {q : Int} {FC : Int → Nat → Nat → Prop} {RR : RU → Prop} {M : MM} {C : Int → Nat → Nat} (h : GrD D D' q) (hM : ∀ r n, M r n → r ≠ q) (hC : CostP D FC RR M C) : CostP D' FC RR M C := by
  obtain ⟨c1, c2, c3, c4⟩ := hC
  refine ⟨c1, fun r k v m hf hm hk => c2 r k v m hf hm (by rw [h.kqq (hM r m hm)] at hk; exact hk), fun R σ m hRR hS hm hk => c3 R σ m hRR hS hm (by rw [h.kqq (hM _ m hm)] at hk; exact hk), fun r m hm => ?_⟩
  rw [h.kqq (hM r m hm)]
  exact c4 r m hm
theorem lit_cut {M : MM} {q : Int} {R : RU} {σ : Nat → Nat} {p : Nat} (hs : R.fm p ≤ 1 → R.sj p ≠ q) (h0 : 0 ≤ R.fm p) : lit (fun r n => M r n ∧ r ≠ q) R σ p ↔ lit M R σ p := by
  unfold lit
  by_cases f0 : R.fm p = 0
  · rw [if_pos f0, if_pos f0]
    exact ⟨fun z => z.1, fun z => ⟨z, hs (by omega)⟩⟩
  · rw [if_neg f0, if_neg f0]
    by_cases f1 : R.fm p = 1
    · rw [if_pos f1, if_pos f1]
      exact ⟨fun z k => z ⟨k, hs (by omega)⟩, fun z k => z k.1⟩
    · rw [if_neg f1, if_neg f1]
theorem GrD.least {D D' : SH} {q : Int} {lv : Int → Nat} {FF : MM} {RR : RU → Prop} {M : MM} (h : GrD D D' q) (hF : ∀ r n, FF r n → r ≠ q) (hR : ∀ R, RR R → WfR D R) (hL : Least D lv FF RR M) : Least D' lv FF RR M := by
  obtain ⟨⟨o1, o2⟩, hs⟩ := hL
  have hMq : ∀ r n, M r n → r ≠ q := fun r n hm => h.nq (o1 r n hm).2
  have htq : ∀ R, RR R → R.tg ≠ q := fun R hRR => h.nq (hR R hRR).2.2.2.2.1.1
  refine ⟨⟨fun r n hm => ⟨(o1 r n hm).1, by rw [(h.2 r (hMq r n hm)).1]; exact (o1 r n hm).2⟩, fun r n m h1 h2 h3 => o2 r n m h1 h2 (by rw [h.kqq (hMq r n h1)] at h3; exact h3)⟩, fun s => ⟨⟨fun r n hf hs' => ?_, fun R hRR ht σ hS => ?_⟩, fun M' hO hA hC r n hr hm => ?_⟩⟩
  · obtain ⟨m, hm, hle⟩ := (hs s).1.1 r n hf hs'
    exact ⟨m, hm, (h.leq (hF r n hf)).mpr hle⟩
  · obtain ⟨m, hm, hle⟩ := (hs s).1.2 R hRR ht σ hS
    exact ⟨m, hm, (h.leq (htq R hRR)).mpr hle⟩
  · obtain ⟨m, hm, hle⟩ := (hs s).2 (fun r n => M' r n ∧ r ≠ q) ⟨fun r n z => ⟨(hO.1 r n z.1).1, by rw [← (h.2 r z.2).1]; exact (hO.1 r n z.1).2⟩, fun r n m x1 x2 x3 => hO.2 r n m x1.1 x2.1 (by rw [h.kqq x1.2]; exact x3)⟩ (fun r n hlt => ⟨fun z => ⟨(hA r n hlt).mp z, hMq r n z⟩, fun z => (hA r n hlt).mpr z.1⟩) ⟨fun r n hf hs' => by
      obtain ⟨m, hm, hle⟩ := hC.1 r n hf hs'
      exact ⟨m, ⟨hm, hF r n hf⟩, (h.leq (hF r n hf)).mp hle⟩, fun R hRR ht σ hS => by
      obtain ⟨m, hm, hle⟩ := hC.2 R hRR ht σ ⟨hS.1, fun p hp => (lit_cut (fun f => h.nq ((hR R hRR).2.2.1 p hp f).1) ((hR R hRR).2.1 p hp).1).mp (hS.2 p hp)⟩
      exact ⟨m, ⟨hm, htq R hRR⟩, (h.leq (htq R hRR)).mp hle⟩⟩ r n hr hm
    exact ⟨m, hm.1, (h.leq hm.2).mpr hle⟩
theorem SA_grow {w w' : World} {q : Nat} (hq : q < 10) (h0 : w 3 q = 0) (h3 : ∀ c k, 3 ≤ c → c ≤ 4 → k ≠ q → w' c k = w c k) : GrD (SA w) (SA w') (q : Int) := by
  refine ⟨by rw [SA_co hq, h0]; rfl, fun r hr => ?_⟩
  by_cases h : 0 ≤ r ∧ r < 10
  · have e : r = (r.toNat : Int) := by omega
    rw [e, SA_co (by omega), SA_co (by omega), SA_ki (by omega), SA_ki (by omega), h3 3 _ (by omega) (by omega) (by omega), h3 4 _ (by omega) (by omega) (by omega)]
    exact ⟨rfl, rfl⟩
  · have e1 : ∀ w : World, (SA w).co r = 0 := fun w => by
      show (if 0 ≤ r ∧ r < 10 then _ else 0) = 0
      rw [if_neg h]
    have e2 : ∀ w : World, (SA w).ki r = 0 := fun w => by
      show (if 0 ≤ r ∧ r < 10 then _ else 0) = 0
      rw [if_neg h]
    rw [e1, e1, e2, e2]
    exact ⟨rfl, rfl⟩
/-- a relation declared: all else holds on -/
theorem Inv_declare {nF m d now top q : Nat} {L g : Nat → Nat} {wA wB wA' wB' : World} (hq : q < 10) (h0 : wA 3 q = 0) (hA : ∀ c, (c < 3 ∨ 6 < c) → wA' c = wA c) (hAq : ∀ c k, 3 ≤ c → c ≤ 6 → k ≠ q → wA' c k = wA c k) (hB : ∀ c, c ≠ 1 → (c < 2 ∨ 5 < c) → wB' c = wB c) (hB1 : ∀ k, k ≠ 0 → wB' 1 k = wB 1 k) (hBq : ∀ c k, 2 ≤ c → c ≤ 5 → k ≠ q → wB' c k = wB c k) (hSch : ISch wA' wB') (hI : Inv nF m d now top L g wA wB) : Inv nF m d now top L g wA' wB' := by
  obtain ⟨i1, i2, i3, i4, i5, i6, i7, i8, i9, i10, i11⟩ := hI
  have hm : m ≤ 12 := i3.1.2.2.1
  have h0B : wB 3 q = 0 := by rw [(i1.2 q hq).1]; exact h0
  have gA : GrD (SA wA) (SA wA') (q : Int) := SA_grow hq h0 (fun c k h1 h2 h3 => hAq c k h1 (by omega) h3)
  have gB : GrD (SA wB) (SA wB') (q : Int) := SA_grow hq h0B (fun c k h1 h2 h3 => hBq c k (by omega) (by omega) h3)
  have neA : ∀ r : Nat, 1 ≤ wA 3 r → r ≠ q := fun r h e => by rw [e, h0] at h; omega
  have neB : ∀ r : Nat, 1 ≤ wB 3 r → r ≠ q := fun r h e => by rw [e, h0B] at h; omega
  have hA' : ∀ c, 7 ≤ c → wA' c = wA c := fun c h => hA c (by omega)
  have hB' : ∀ c, 6 ≤ c → wB' c = wB c := fun c h => hB c (by omega) (by omega)
  have hRB : ∀ b, 7 ≤ b → RB wA' b = RB wA b := fun b h => RB_congr (hA' _ (by omega)) (hA' _ (by omega)) (hA' _ (by omega)) (hA' _ (by omega))
  have hRBB : ∀ j, RBB wB' j = RBB wB j := fun j => RBB_congr (fun c a b => hB' c (by omega)) j
  have vA : ∀ r k, 1 ≤ wA 3 r → Vc wA r k → Vc wA' r k := fun r k h hv j hj => hv j (by rw [← hAq 3 r (by omega) (by omega) (neA r h)]; exact hj)
  have vB : ∀ r k, 1 ≤ wB 3 r → Vc wB r k → Vc wB' r k := fun r k h hv j hj => hv j (by rw [← hBq 3 r (by omega) (by omega) (neB r h)]; exact hj)
  have hRrA : RrA m wA' = RrA m wA := by
    unfold RrA Rof
    funext R
    refine propext (exists_congr fun i => and_congr_right fun hi => ?_)
    unfold FA GA
    rw [hRB _ (by omega), hA' _ (by omega)]
  have hRrB : RrB m wB' = RrB m wB := by
    unfold RrB Rof
    funext R
    refine propext (exists_congr fun i => and_congr_right fun hi => ?_)
    unfold FB GB
    rw [hRBB, hB' 13 (by omega)]
  have wfA : ∀ R, RrA m wA R → WfR (SA wA) R := by
    rintro R ⟨i, hi, -, rfl⟩
    exact (i3.1.2.2.2.2 i hi).2.1
  have wfB : ∀ R, RrB m wB R → WfR (SA wB) R := by
    rintro R ⟨i, hi, -, rfl⟩
    exact (i3.2.1.2.2 i hi).1.2.2.2
  have hFFA : ∀ hour wo, FFA nF wA' hour wo = FFA nF wA hour wo := fun hour wo => by
    unfold FFA FaC
    rw [hA' 13 (by omega), hA' 11 (by omega), hA' 12 (by omega), hA' 8 (by omega), hA' 9 (by omega)]
  have hFCA : ∀ hour, FCA nF wA' hour = FCA nF wA hour := fun hour => by
    unfold FCA FaC
    rw [hA' 13 (by omega), hA' 11 (by omega), hA' 12 (by omega), hA' 8 (by omega), hA' 9 (by omega), hA' 10 (by omega)]
  have hFFB : ∀ hour wo, FFB nF wB' hour wo = FFB nF wB hour wo := fun hour wo => by
    unfold FFB FcB
    rw [hB' 12 (by omega), hB' 10 (by omega), hB' 11 (by omega), hB' 7 (by omega), hB' 8 (by omega)]
  have fqA : ∀ hour wo r n, FFA nF wA hour wo r n → r ≠ (q : Int) := by
    rintro hour wo r n ⟨f, hf, -, e, -⟩ hr
    obtain ⟨r', k, y1, y2, y3, -⟩ := i2.1.2.2 f hf
    exact neA r' y3 (by omega)
  have fqB : ∀ hour wo r n, FFB nF wB hour wo r n → r ≠ (q : Int) := by
    rintro hour wo r n ⟨f, hf, -, e, -⟩ hr
    obtain ⟨r', k, y1, y2, y3, -⟩ := i2.2.1.2.2 f hf
    exact neB r' y3 (by omega)
  have hT' : WfT wB' := hSch.T
  have bl : ∀ ru, RuBL wB ru → RuBL wB' ru := fun ru h => ⟨h.1, hT', by rw [hRBB, hB' 16 (by omega)]; exact h.2.2.1, by rw [hRBB]; exact gB.wfL h.2.2.2⟩
  have dn : ∀ b, 7 ≤ b → DnA wA b → DnA wA' b := fun b h7 h => ⟨by rw [hRB b h7, hA' b h7]; exact h.1, by rw [hRB b h7]; exact gA.wfL h.2⟩
  refine ⟨hSch, ?_, ?_, ?_, ?_, ⟨by rw [hA 1 (by omega)]; exact i6.1, by rw [hB1 1 (by omega)]; exact i6.2.1, i6.2.2⟩, ?_, ?_, fun h h4 => ?_, ?_, ?_⟩
  · obtain ⟨f1, f2, f3, f4⟩ := i2
    refine ⟨?_, ?_, ?_, ?_⟩
    · obtain ⟨x1, x2, x3⟩ := f1
      refine ⟨by rw [hA' 7 (by omega)]; exact x1, x2, fun f hf => ?_⟩
      obtain ⟨r, k, y1, y2, y3, y4, y5, y6⟩ := x3 f hf
      exact ⟨r, k, by rw [hA' 8 (by omega)]; exact y1, y2, by rw [hAq 3 r (by omega) (by omega) (neA r y3)]; exact y3, by rw [hA' 9 (by omega)]; exact y4, y5, vA r k y3 y6⟩
    · obtain ⟨x1, x2, x3⟩ := f2
      refine ⟨by rw [hB1 7 (by omega)]; exact x1, x2, fun f hf => ?_⟩
      obtain ⟨r, k, y1, y2, y3, y4, y5, y6⟩ := x3 f hf
      exact ⟨r, k, by rw [hB' 7 (by omega)]; exact y1, y2, by rw [hBq 3 r (by omega) (by omega) (neB r y3)]; exact y3, by rw [hB' 8 (by omega)]; exact y4, y5, vB r k y3 y6⟩
    · rw [hB' 7 (by omega), hB' 8 (by omega), hB' 9 (by omega), hB' 10 (by omega), hB' 11 (by omega), hB' 12 (by omega), hA' 8 (by omega), hA' 9 (by omega), hA' 10 (by omega), hA' 11 (by omega), hA' 12 (by omega), hA' 13 (by omega)]
      exact f3
    · rw [hA' 7 (by omega), hA' 13 (by omega)]
      exact f4
  · obtain ⟨r1, r2, r3⟩ := i3
    refine ⟨?_, ?_, fun j hj => ?_⟩
    · obtain ⟨p1, p2, p3, p4, p5⟩ := r1
      refine ⟨hSch.1, by rw [hA' 14 (by omega)]; exact p2, p3, by rw [hA' 19 (by omega)]; exact p4, fun j hj => ?_⟩
      unfold RuA
      rw [hRB _ (by omega), hA' _ (by omega)]
      exact ⟨(p5 j hj).1, gA.wfR (p5 j hj).2.1, (p5 j hj).2.2⟩
    · obtain ⟨p1, p2, p3⟩ := r2
      refine ⟨by rw [hB1 14 (by omega)]; exact p1, p2, fun j hj => ⟨?_, ?_⟩⟩
      · obtain ⟨x1, x2, x3, x4⟩ := (p3 j hj).1
        exact ⟨x1, hT', by rw [hRBB, hB' 16 (by omega)]; exact x3, by rw [hRBB]; exact gB.wfR x4⟩
      · rw [hRBB]; exact (p3 j hj).2
    · rw [hRB _ (by omega), hRBB, hB' 13 (by omega), hA' _ (by omega)]
      exact r3 j hj
  · obtain ⟨d1, d2, d3, d4, d5⟩ := i4
    refine ⟨by rw [hA' 14 (by omega)]; exact d1, by rw [hB1 15 (by omega)]; exact d2, d3, by rw [hA' 20 (by omega)]; exact d4, fun j hj => ?_⟩
    obtain ⟨e1, e2, e3, e4, e5⟩ := d5 j hj
    refine ⟨dn _ (by omega) e1, bl _ e2, ?_⟩
    rw [hRB _ (by omega), hRBB]
    exact ⟨e3, e4, e5⟩
  · obtain ⟨e1, e2, e3, e4, e5, e6⟩ := i5
    refine ⟨dn _ (by omega) e1, bl _ e2, ?_⟩
    rw [hRB 94 (by omega), hRBB, hB' 14 (by omega), hA' 94 (by omega)]
    refine ⟨e3, e4, e5, e6.imp (fun h => h) (fun h => ⟨?_, h.2⟩)⟩
    obtain ⟨r, r1, r2, r3, r4⟩ := h.1
    exact ⟨r, r1, r2, by rw [hAq 3 r (by omega) (by omega) (neA r r3)]; exact r3, fun c h1 h2 => r4 c h1 (by rw [← hAq 3 r (by omega) (by omega) (neA r r3)]; exact h2)⟩
  · obtain ⟨l1, l2, l3, l4⟩ := i7
    refine ⟨?_, ?_, l3, ?_⟩
    · unfold LA
      rw [hA' 21 (by omega), hA' 14 (by omega)]
      exact l1
    · unfold LB
      rw [hB' 6 (by omega)]
      exact l2
    · rw [hRrA]
      exact ⟨gA.sol wfA l4.1, fun lv hlv => l4.2 lv (gA.solr wfA hlv)⟩
  · refine ⟨i8.1, i8.2.1, ?_⟩
    rw [hA' 108 (by omega), hA' 109 (by omega)]
    exact i8.2.2
  · have hg := i8.rng (i := h) (by omega)
    obtain ⟨N, ρ, c, Lc, n, ρ', c', a1, a2, a3, a4, a5, a6, a7, a8, a9⟩ := i9 h h4
    obtain ⟨b1, b2, b3, b4, b5, b6⟩ := id a1
    obtain ⟨c1, c2, c3, c4, c5⟩ := id a5
    have hMA : ∀ r k, AM N ρ c r k → r ≠ (q : Int) := fun r k hm => gA.nq (a4.1.1 r k hm).2
    refine ⟨N, ρ, c, Lc, n, ρ', c', ⟨by rw [hA' _ (by omega)]; exact b1, b2, fun r hr => by rw [hA' _ (by omega), hA' _ (by omega)]; exact b3 r hr, b4, fun s hs => ?_, fun r hr => ?_⟩, fun s hs => vA _ _ (b5 s hs).2.2.2 (a2 s hs), by rw [hA' _ (by omega)]; exact a3, ?_, ⟨c1, by rw [hB' 20 (by omega)]; exact c2, c3, fun s hs => ?_, fun s s' h1 h2 h3 h4 => ?_⟩, fun s hs => vB _ _ (c4 s hs).2.2.2.2 (a6 s hs), a7, ?_, fun hn hk => ?_⟩
    · obtain ⟨x1, x2, x3, x4⟩ := b5 s hs
      exact ⟨x1, by rw [hA' _ (by omega)]; exact x2, x3, by rw [hAq 3 _ (by omega) (by omega) (neA _ x4)]; exact x4⟩
    · by_cases e : r = q
      · have hnil : Lc r = [] := by
          refine List.eq_nil_iff_forall_not_mem.mpr (fun s hs => ?_)
          have h1 := (b4 r s hr).mp hs
          have h2 := (b5 s h1.1).2.2.2
          rw [h1.2] at h2
          exact neA r h2 e
        rw [hnil]
        exact List.Pairwise.nil
      · rw [gA.kqq (show (r : Int) ≠ (q : Int) by omega)]
        exact b6 r hr
    · rw [hFFA, hRrA]
      exact gA.least (fqA _ _) wfA a4
    · obtain ⟨x1, x2, x3, x4, x5⟩ := c4 s hs
      exact ⟨x1, by rw [hB' 21 (by omega)]; exact x2, by rw [hB' 22 (by omega)]; exact x3, x4, by rw [hBq 3 _ (by omega) (by omega) (neB _ x5)]; exact x5⟩
    · have hne := neB _ (c4 s h1).2.2.2.2
      rw [gB.kqq (show (ρ' s : Int) ≠ (q : Int) by omega)]
      exact c5 s s' h1 h2 h3 h4
    · rw [hFFB, hRrB]
      exact gB.least (fqB _ _) wfB a8
    · rw [hA' 150 (by omega)] at hk
      obtain ⟨C, z1, z2⟩ := a9 hn hk
      exact ⟨C, by rw [hFCA, hRrA]; exact gA.cost hMA z1, by rw [hA' 151 (by omega)]; exact z2⟩
  · rw [hA' 104 (by omega)]; exact i10
  · intro v hv
    rw [hB' 24 (by omega)] at hv
    rw [hB' 23 (by omega)]
    exact i11 v hv
