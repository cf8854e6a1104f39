/-! BOTH: the lower rows, the models of an hour, that both fail alike -/
def Low (nF m d now top : Nat) (L : Nat → Nat) (wA wB : World) : Prop := ISch wA wB ∧ IFac nF wA wB ∧ IRul m wA wB ∧ IDen d wA wB ∧ IDrf wA wB ∧ (wA 1 12 = (now : Int) ∧ wB 1 1 = (now : Int) ∧ now < 4) ∧ ILev m L top wA wB
theorem Low.S {nF m d now top : Nat} {L : Nat → Nat} {wA wB : World} (h : Low nF m d now top L wA wB) : Stt nF m top L wA wB := ⟨h.1, h.2.1, h.2.2.1, h.2.2.2.2.2.2⟩
theorem IFac_congr {nF : Nat} {wA wB wA' wB' : World} (a3 : wA' 3 = wA 3) (hA : ∀ c, 7 ≤ c → c ≤ 13 → wA' c = wA c) (b3 : wB' 3 = wB 3) (hB : ∀ c, 7 ≤ c → c ≤ 12 → wB' c = wB c) (h7 : wB' 1 7 = wB 1 7) (h : IFac nF wA wB) : IFac nF wA' wB' := by
  obtain ⟨f1, f2, f3, f4⟩ := h
  refine ⟨?_, ?_, ?_, ?_⟩
  · obtain ⟨x1, x2, x3⟩ := f1
    refine ⟨by rw [hA 7 (by omega) (by omega)]; exact x1, x2, fun f hf => ?_⟩
    obtain ⟨r, k, y1, y2, y3, y4, y5, y6⟩ := x3 f hf
    exact ⟨r, k, by rw [hA 8 (by omega) (by omega)]; exact y1, y2, by rw [a3]; exact y3, by rw [hA 9 (by omega) (by omega)]; exact y4, y5, (Vc_3 a3).mpr y6⟩
  · obtain ⟨x1, x2, x3⟩ := f2
    refine ⟨by rw [h7]; exact x1, x2, fun f hf => ?_⟩
    obtain ⟨r, k, y1, y2, y3, y4, y5, y6⟩ := x3 f hf
    exact ⟨r, k, by rw [hB 7 (by omega) (by omega)]; exact y1, y2, by rw [b3]; exact y3, by rw [hB 8 (by omega) (by omega)]; exact y4, y5, (Vc_3 b3).mpr y6⟩
  · rw [hB 7 (by omega) (by omega), hB 8 (by omega) (by omega), hB 9 (by omega) (by omega), hB 10 (by omega) (by omega), hB 11 (by omega) (by omega), hB 12 (by omega) (by omega), hA 8 (by omega) (by omega), hA 9 (by omega) (by omega), hA 10 (by omega) (by omega), hA 11 (by omega) (by omega), hA 12 (by omega) (by omega), hA 13 (by omega) (by omega)]
    exact f3
  · rw [hA 7 (by omega) (by omega), hA 13 (by omega) (by omega)]
    exact f4
/-- facts changed -/
theorem Low_fac {nF nF' m d now top : Nat} {L : Nat → Nat} {wA wB wA' wB' : World} (hA : ∀ c, c < 98 → (c < 7 ∨ 13 < c) → wA' c = wA c) (hB : ∀ c, 2 ≤ c → c < 20 → (c < 7 ∨ 12 < c) → wB' c = wB c) (hB1 : ∀ k, k = 1 ∨ k = 14 ∨ k = 15 → wB' 1 k = wB 1 k) (hI : Low nF m d now top L wA wB) (hFac : IFac nF' wA' wB') : Low nF' m d now top L wA' wB' := by
  obtain ⟨i1, i2, i3, i4, i5, i6, i7⟩ := hI
  have hm : m ≤ 12 := i3.1.2.2.1
  have hSA : SA wA' = SA wA := SA_c5 (fun c _ _ => hA c (by omega) (by omega))
  have hSB : SA wB' = SA wB := SA_c5 (fun c _ _ => hB c (by omega) (by omega) (by omega))
  have hRB : ∀ b, 14 ≤ b → b + 3 < 98 → RB wA' b = RB wA b := fun b h h2 => RB_congr (hA _ (by omega) (by omega)) (hA _ (by omega) (by omega)) (hA _ (by omega) (by omega)) (hA _ (by omega) (by omega))
  have hRBB : ∀ j, RBB wB' j = RBB wB j := fun j => RBB_congr (fun c a b => hB c (by omega) (by omega) (by omega)) j
  have hRrA : RrA m wA' = RrA m wA := by
    unfold RrA Rof
    funext R
    refine propext (exists_congr fun i => and_congr_right fun hi => ?_)
    unfold FA GA
    rw [hRB _ (by omega) (by omega), hA _ (by omega) (by omega)]
  have hE : ∀ j, RE (RBB wB j) (RBB wB' j) := fun j => by rw [hRBB]; exact RE.refl
  have h16 : ∀ j, wB' 16 j = wB 16 j := fun j => by rw [hB 16 (by omega) (by omega) (by omega)]
  have c35 : ∀ c, 3 ≤ c → c ≤ 5 → wB' c = wB c := fun c h1 h2 => hB c (by omega) (by omega) (by omega)
  have dn : ∀ b, 14 ≤ b → b + 3 < 98 → DnA wA b → DnA wA' b := fun b h1 h2 h => by
    unfold DnA
    rw [hRB b h1 h2, hSA, hA b (by omega) (by omega)]
    exact h
  refine ⟨⟨WfS_congr (fun c a b k => by rw [hA c (by omega) (by omega)]) i1.1, ?_⟩, hFac, ?_, ?_, ?_, ⟨by rw [hA 1 (by omega) (by omega)]; exact i6.1, by rw [hB1 1 (by omega)]; exact i6.2.1, i6.2.2⟩, ?_⟩
  · rw [hB 3 (by omega) (by omega) (by omega), hB 4 (by omega) (by omega) (by omega), hB 5 (by omega) (by omega) (by omega), hB 2 (by omega) (by omega) (by omega), hA 3 (by omega) (by omega), hA 4 (by omega) (by omega), hA 5 (by omega) (by omega)]
    exact i1.2
  · obtain ⟨r1, r2, r3⟩ := i3
    refine ⟨?_, ?_, fun j hj => ?_⟩
    · obtain ⟨p1, p2, p3, p4, p5⟩ := r1
      refine ⟨WfS_congr (fun c a b k => by rw [hA c (by omega) (by omega)]) p1, by rw [hA 14 (by omega) (by omega)]; exact p2, p3, by rw [hA 19 (by omega) (by omega)]; exact p4, fun j hj => ?_⟩
      unfold RuA
      rw [hRB _ (by omega) (by omega), hSA, hA _ (by omega) (by omega)]
      exact p5 j hj
    · obtain ⟨p1, p2, p3⟩ := r2
      exact ⟨by rw [hB1 14 (by omega)]; exact p1, p2, fun j hj => ⟨RuB_E (hE j) (h16 j) c35 (p3 j hj).1, Rng_E (hE j) (p3 j hj).2⟩⟩
    · rw [hRB _ (by omega) (by omega), hRBB, hB 13 (by omega) (by omega) (by omega), hA _ (by omega) (by omega)]
      exact r3 j hj
  · obtain ⟨d1, d2, d3, d4, d5⟩ := i4
    refine ⟨by rw [hA 14 (by omega) (by omega)]; exact d1, by rw [hB1 15 (by omega)]; exact d2, d3, by rw [hA 20 (by omega) (by omega)]; exact d4, fun j hj => ?_⟩
    obtain ⟨e1, e2, e3, e4, e5⟩ := d5 j hj
    refine ⟨dn _ (by omega) (by omega) e1, RuBL_E (hE _).T (h16 _) c35 e2, ?_⟩
    rw [hRB _ (by omega) (by omega), hRBB]
    exact ⟨e3, e4, e5⟩
  · obtain ⟨e1, e2, e3, e4, e5, e6⟩ := i5
    refine ⟨dn _ (by omega) (by omega) e1, RuBL_E (hE _).T (h16 _) c35 e2, ?_⟩
    rw [hRB 94 (by omega) (by omega), hRBB, hB 14 (by omega) (by omega) (by omega), hA 94 (by omega) (by omega), hA 3 (by omega) (by omega)]
    exact ⟨e3, e4, e5, e6⟩
  · obtain ⟨l1, l2, l3, l4⟩ := i7
    refine ⟨?_, ?_, l3, ?_⟩
    · unfold LA
      rw [hA 21 (by omega) (by omega), hA 14 (by omega) (by omega)]
      exact l1
    · unfold LB
      rw [hB 6 (by omega) (by omega) (by omega)]
      exact l2
    · rw [hRrA, hSA]
      exact l4
theorem Low_congr {nF m d now top : Nat} {L : Nat → Nat} {wA wB wA' wB' : World} (hA : ∀ c, c < 98 → wA' c = wA c) (hB : ∀ c, 2 ≤ c → c < 20 → wB' c = wB c) (hB1 : ∀ k, k = 1 ∨ k = 7 ∨ k = 14 ∨ k = 15 → wB' 1 k = wB 1 k) (hI : Low nF m d now top L wA wB) : Low nF m d now top L wA' wB' :=
  Low_fac (fun c h _ => hA c h) (fun c h1 h2 _ => hB c h1 h2) (fun k hk => hB1 k (by omega)) hI (IFac_congr (hA 3 (by omega)) (fun c _ _ => hA c (by omega)) (hB 3 (by omega) (by omega)) (fun c _ _ => hB c (by omega) (by omega)) (hB1 7 (by omega)) hI.2.1)
/-- the class's model of an hour, with its costs -/
def HAc (nF m : Nat) (L : Nat → Nat) (w : World) (t now h : Nat) : Prop := ∃ (N : Nat) (ρ c : Nat → Nat) (Lc : Nat → List Nat), AMod w t N ρ c Lc ∧ VCs w N ρ c ∧ w t 2 = 0 ∧ Least (SA w) (lvf L) (FFA nF w (h : Int) 0) (RrA m w) (AM N ρ c) ∧ (h = now → w 150 0 ≠ 0 → ∃ C, CostP (SA w) (FCA nF w (h : Int)) (RrA m w) (AM N ρ c) C ∧ ∀ s, s < N → w 151 s = ((C (ρ s : Int) (c s) : Nat) : Int))
theorem HAc_g {nF nF' m m' t now h : Nat} {L : Nat → Nat} {w w' : World} (hI : HAc nF m L w t now h) (a3 : ∀ c, 3 ≤ c → c ≤ 6 → w' c = w c) (ag : ∀ c, t ≤ c → c ≤ t + 4 → w' c = w c) (aF : ∀ r k, FFA nF w (h : Int) 0 r k ↔ FFA nF' w' (h : Int) 0 r k) (aR : RS (RrA m w) (RrA m' w')) (a150 : w' 150 0 = 0 ∨ (w' 150 0 = w 150 0 ∧ w' 151 = w 151 ∧ FCA nF' w' (h : Int) = FCA nF w (h : Int))) : HAc nF' m' L w' t now h := by
  obtain ⟨N, ρ, c, Lc, a1, a2, a3', a4, a9⟩ := hI
  have hSA : SA w' = SA w := SA_c5 (fun c x y => a3 c x (by omega))
  refine ⟨N, ρ, c, Lc, AMod_congr a3 ag a1, VCs_3 (a3 3 (by omega) (by omega)) a2, by rw [ag _ (Nat.le_refl _) (by omega)]; exact a3', ?_, fun hn h0 => ?_⟩
  · rw [hSA]; exact aR.least (FF_least aF a4)
  · rcases a150 with z | ⟨z1, z2, z3⟩
    · exact absurd z h0
    · obtain ⟨C, c1, c2⟩ := a9 hn (by rw [← z1]; exact h0)
      exact ⟨C, by rw [hSA, z3]; exact CostP_RS aR c1, by rw [z2]; exact c2⟩
theorem HAt.c {nF m t now h : Nat} {L : Nat → Nat} {w : World} (h0 : w 150 0 = 0) (hA : HAt nF m L w t h) : HAc nF m L w t now h := by
  obtain ⟨N, ρ, c, Lc, a1, a2, a3, a4⟩ := hA
  exact ⟨N, ρ, c, Lc, a1, a2, a3, a4, fun _ z => absurd h0 z⟩
theorem HAc.t {nF m t now h : Nat} {L : Nat → Nat} {w : World} (hA : HAc nF m L w t now h) : HAt nF m L w t h := by
  obtain ⟨N, ρ, c, Lc, a1, a2, a3, a4, -⟩ := hA
  exact ⟨N, ρ, c, Lc, a1, a2, a3, a4⟩
theorem IHou_of {nF m now h : Nat} {L g : Nat → Nat} {wA wB : World} (hA : HAc nF m L wA (g h) now h) (hB : HBt nF m L wB h) : IHou nF m L g wA wB now h := by
  obtain ⟨N, ρ, c, Lc, a1, a2, a3, a4, a9⟩ := hA
  obtain ⟨n, ρ', c', b1, b2, b3, b4⟩ := hB
  exact ⟨N, ρ, c, Lc, n, ρ', c', a1, a2, a3, a4, b1, b2, b3, b4, a9⟩
theorem IHou.A {nF m now h : Nat} {L g : Nat → Nat} {wA wB : World} (hI : IHou nF m L g wA wB now h) : HAc nF m L wA (g h) now h ∧ HBt nF m L wB h := by
  obtain ⟨N, ρ, c, Lc, n, ρ', c', a1, a2, a3, a4, a5, a6, a7, a8, a9⟩ := hI
  exact ⟨⟨N, ρ, c, Lc, a1, a2, a3, a4, a9⟩, n, ρ', c', a5, a6, a7, a8⟩
theorem Inv.low {nF m d now top : Nat} {L g : Nat → Nat} {wA wB : World} (hI : Inv nF m d now top L g wA wB) : Low nF m d now top L wA wB := by
  obtain ⟨i1, i2, i3, i4, i5, i6, i7, -⟩ := hI
  exact ⟨i1, i2, i3, i4, i5, i6, i7⟩
theorem Inv_of {nF m d now top : Nat} {L g : Nat → Nat} {wA wB : World} (hL : Low nF m d now top L wA wB) (hr : IRef g wA) (hA : ∀ h, h < 4 → HAc nF m L wA (g h) now h) (hB : ∀ h, h < 4 → HBt nF m L wB h) (hV : VV (wA 104)) (hVB : VB wB) : Inv nF m d now top L g wA wB := by
  obtain ⟨i1, i2, i3, i4, i5, i6, i7⟩ := hL
  exact ⟨i1, i2, i3, i4, i5, i6, i7, hr, fun h h4 => IHou_of (hA h h4) (hB h h4), hV, hVB⟩
theorem over_ab {nF m top N : Nat} {L : Nat → Nat} {wA wB : World} {hour wo : Int} {ρ c : Nat → Nat} (hS : Stt nF m top L wA wB) (hN : N ≤ 48) (hL : Least (SA wA) (lvf L) (FFA nF wA hour wo) (RrA m wA) (AM N ρ c)) (hO : OvBt nF m L wB hour wo) : False := by
  obtain ⟨i1, i2, i3, i7⟩ := hS
  obtain ⟨N', ρ', c', sl, o1, o2⟩ := hO
  rw [i1.SA] at o1 o2
  have e : FFB nF wB hour wo = FFA nF wA hour wo := funext fun r => funext fun k => propext (i2.FF r k).symm
  rw [e] at o2
  exact over_no i1.1.D o1 (i3.RS.symm.over o2) hN hL
theorem over_ba {nF m top n : Nat} {L : Nat → Nat} {wA wB : World} {hour wo : Int} {ρ c : Nat → Nat} (hS : Stt nF m top L wA wB) (hn : n ≤ 48) (hL : Least (SA wB) (lvf L) (FFB nF wB hour wo) (RrB m wB) (AM n ρ c)) (hO : OvA nF m L wA hour wo) : False := by
  obtain ⟨i1, i2, i3, i7⟩ := hS
  obtain ⟨N', ρ', c', sl, o1, o2⟩ := hO
  have e : FFA nF wA hour wo = FFB nF wB hour wo := funext fun r => funext fun k => propext (i2.FF r k)
  rw [e] at o2
  rw [i1.SA] at hL
  exact over_no i1.1.D o1 (i3.RS.over o2) hn hL
theorem HAt.no {nF m top t h : Nat} {L : Nat → Nat} {wA wB : World} (hS : Stt nF m top L wA wB) (hA : HAt nF m L wA t h) (hO : OvBt nF m L wB (h : Int) 0) : False := by
  obtain ⟨N, ρ, c, Lc, a1, a2, a3, a4⟩ := hA
  exact over_ab hS a1.2.1 a4 hO
theorem HBt.no {nF m top h : Nat} {L : Nat → Nat} {wA wB : World} (hS : Stt nF m top L wA wB) (hB : HBt nF m L wB h) (hO : OvA nF m L wA (h : Int) 0) : False := by
  obtain ⟨n, ρ, c, a1, a2, a3, a4⟩ := hB
  exact over_ba hS a3 a4 hO
