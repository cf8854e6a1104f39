/-! BOTH: models built anew; the class -/
def Stt (nF m top : Nat) (L : Nat → Nat) (wA wB : World) : Prop := ISch wA wB ∧ IFac nF wA wB ∧ IRul m wA wB ∧ ILev m L top wA wB
def SttA (nF m top : Nat) (L : Nat → Nat) (w : World) : Prop := WfS w ∧ PrW (SA w) (lvf L) (RrA m w) m w ∧ PrC (RrA m w) m w ∧ FaW nF w ∧ w 14 7 = (top : Int) ∧ top < 10 ∧ (∀ q : Nat, q < 10 → lvf L (q : Int) ≤ top) ∧ m ≤ 12
def HAt (nF m : Nat) (L : Nat → Nat) (w : World) (t h : Nat) : Prop := ∃ (N : Nat) (ρ c : Nat → Nat) (Lc : Nat → List Nat), AMod w t N ρ c Lc ∧ VCs w N ρ c ∧ w t 2 = 0 ∧ Least (SA w) (lvf L) (FFA nF w (h : Int) 0) (RrA m w) (AM N ρ c)
def HBt (nF m : Nat) (L : Nat → Nat) (w : World) (h : Nat) : Prop := ∃ (n : Nat) (ρ c : Nat → Nat), BMod w h n ρ c ∧ VCs w n ρ c ∧ n ≤ 48 ∧ Least (SA w) (lvf L) (FFB nF w (h : Int) 0) (RrB m w) (AM n ρ c)
def OvA (nF m : Nat) (L : Nat → Nat) (w : World) (hour wo : Int) : Prop := ∃ (N : Nat) (ρ c : Nat → Nat) (sl : Nat), OkM (SA w) (AM N ρ c) ∧ OverR (SA w) (lvf L) (FFA nF w hour wo) (RrA m w) sl (AM N ρ c)
def OvBt (nF m : Nat) (L : Nat → Nat) (w : World) (hour wo : Int) : Prop := ∃ (N : Nat) (ρ c : Nat → Nat) (sl : Nat), OkM (SA w) (AM N ρ c) ∧ OverR (SA w) (lvf L) (FFB nF w hour wo) (RrB m w) sl (AM N ρ c)
theorem Stt.A {nF m top : Nat} {L : Nat → Nat} {wA wB : World} (h : Stt nF m top L wA wB) : SttA nF m top L wA := by
  obtain ⟨i1, i2, i3, i7⟩ := h
  have wf : ∀ R, RrA m wA R → WfR (SA wA) R := by
    rintro R ⟨i, hi, -, rfl⟩
    exact (i3.1.2.2.2.2 i hi).2.1
  refine ⟨i1.1, ⟨i3.1.2.1, i3.1.2.2.1, i3.1.2.2.2.1, fun q hq => by rw [lvf_n hq]; exact i7.1.1 q hq, i1.1.D, sol_lev wf i7.2.2.2.1, fun j hj => ⟨(i3.1.2.2.2.2 j hj).1, fun h0 => ⟨⟨j, hj, h0, rfl⟩, ?_⟩⟩⟩, ?_, i2.1, i7.1.2.1, i7.2.2.1, fun q hq => by rw [lvf_n hq]; exact i7.1.2.2.1 q hq, i3.1.2.2.1⟩
  · obtain ⟨-, -, -, s1, s2, s3⟩ := i3.2.2 j hj
    exact ⟨s1, s2, s3, (i3.1.2.2.2.2 j hj).2.2⟩
  · rintro R ⟨i, hi, h0, rfl⟩
    exact ⟨i, hi, h0, rfl⟩
theorem Stt.RRs {nF m top : Nat} {L : Nat → Nat} {wA wB : World} (h : Stt nF m top L wA wB) : PrB (SA wB) (lvf L) (RrB m wB) m wB ∧ PrCB (RrB m wB) m wB := by
  obtain ⟨i1, i2, i3, i7⟩ := h
  have wfA : ∀ R, RrA m wA R → WfR (SA wA) R := by
    rintro R ⟨i, hi, -, rfl⟩
    exact (i3.1.2.2.2.2 i hi).2.1
  have wf : ∀ R, RrB m wB R → WfR (SA wB) R := by
    rintro R ⟨i, hi, -, rfl⟩
    exact (i3.2.1.2.2 i hi).1.2.2.2
  have hsol : SolL (SA wB) (RrB m wB) (lvf L) := by rw [i1.SA]; exact i3.RS.sol i1.1.D wfA i7.2.2.2.1
  refine ⟨⟨i3.2.1.1, i3.1.2.2.1, fun q hq => by rw [lvf_n hq]; exact i7.2.1 q hq, i1.T.D, sol_lev wf hsol, fun j hj => ⟨(i3.2.1.2.2 j hj).1.2.2.1, (i3.2.1.2.2 j hj).2.1, fun h0 => ⟨⟨j, hj, h0, rfl⟩, ?_⟩⟩⟩, ?_⟩
  · obtain ⟨e, -, -, s1, s2, s3⟩ := i3.2.2 j hj
    refine ⟨e.T.safeL.mp s1, ?_, e.T.few s3⟩
    intro cc hcc hn
    rw [e.2.2.2 cc hcc] at hn ⊢
    obtain ⟨p, c', hp, hc', hf, he⟩ := s2 cc hcc hn
    obtain ⟨x, y, z⟩ := e.2.1 p hp
    exact ⟨p, c', by rw [e.1]; exact hp, hc', by rw [x]; exact hf, by rw [z c' hc']; exact he⟩
  · rintro R ⟨i, hi, h0, rfl⟩
    exact ⟨i, hi, h0, rfl⟩
theorem SttA.congr {nF m top : Nat} {L : Nat → Nat} {w w' : World} (hl : ∀ c, c < 98 → w' c = w c) (h : SttA nF m top L w) : SttA nF m top L w' := by
  obtain ⟨s1, s2, s3, s4, s5, s6, s7, s8⟩ := h
  have hSA : SA w' = SA w := SA_c5 (fun c _ _ => hl c (by omega))
  have hR := RrA_c (m := m) s8 hl
  refine ⟨WfS_congr (fun c a b k => by rw [hl c (by omega)]) s1, ?_, ?_, FaW_congr hl s4, by rw [hl 14 (by omega)]; exact s5, s6, s7, s8⟩
  · rw [hSA, hR]; exact PrW_congr hl s2
  · rw [hR]; exact PrC_congr s8 hl s3
theorem HAt_congr {nF m : Nat} {L : Nat → Nat} {w w' : World} {t h : Nat} (hm : m ≤ 12) (hl : ∀ c, c < 98 → w' c = w c) (ht : ∀ c, t ≤ c → c ≤ t + 4 → w' c = w c) (hA : HAt nF m L w t h) : HAt nF m L w' t h := by
  obtain ⟨N, ρ, c, Lc, a1, a2, a3, a4⟩ := hA
  refine ⟨N, ρ, c, Lc, AMod_congr (fun c _ _ => hl c (by omega)) ht a1, VCs_3 (hl 3 (by omega)) a2, by rw [ht t (Nat.le_refl _) (by omega)]; exact a3, ?_⟩
  rw [SA_c5 (fun c _ _ => hl c (by omega)), FFA_congr hl, RrA_c hm hl]
  exact a4
theorem buildA1 {nF m top t : Nat} {L : Nat → Nat} {w : World} {hour wo x4 : Int} (hS : SttA nF m top L w) (hV : VV (w 104)) (hkt : kdA t = 6) :
    ∃ w' N ρ c Lc, f_Mi_build w t hour wo x4 = some w' ∧ VV (w' 104) ∧ (∀ c, ¬ (t ≤ c ∧ c ≤ t + 4) → ¬ (103 ≤ c ∧ c ≤ 106) → w' c = w c) ∧ AMod w' t N ρ c Lc ∧ VCs w' N ρ c ∧ ((w' t 2 = 0 ∧ Least (SA w) (lvf L) (FFA nF w hour wo) (RrA m w) (AM N ρ c)) ∨ (w' t 2 = 1 ∧ OvA nF m L w hour wo)) := by
  obtain ⟨s1, s2, s3, s4, s5, s6, s7, s8⟩ := hS
  have ht := kd6_out t (kd_lt hkt (by decide)) hkt
  obtain ⟨w', N, ρ, c, Lc, b1, b2, b3, b4, b5, b6, b7, b8⟩ := build_n (x4 := x4) hkt s1 hV s2 s3 s4 (fun r k => Iff.rfl) s5 s6 s7
  refine ⟨w', N, ρ, c, Lc, b1, b4, b5, b2, b3, ?_⟩
  rcases b6 with z | z
  · exact Or.inl ⟨z, b7 z⟩
  · refine Or.inr ⟨z, N, ρ, c, top + 1, ?_, b8 (by rw [z]; decide)⟩
    have hSA : SA w' = SA w := SA_c5 (fun c _ _ => b5 c (by omega) (by omega))
    rw [← hSA]
    exact AM_OkM b2
theorem spareOf_n {g : Nat → Nat} {wA : World} (h : IRef g wA) {k : Nat} (hk : k < 4) : f_Dm_spareOf wA (k : Int) = some (g (4 + k)) := by
  have hg := h.rng (i := 4 + k) (by omega)
  unfold f_Dm_spareOf f_Dm_spareOf_26
  rw [if_neg (by omega), if_neg (by omega), gd_t ⟨by omega, by omega⟩, Int.toNat_natCast, (h.2.2 k hk).2, Int.toNat_natCast, if_neg (by omega)]
/-- all but the spares -/
def F1 (g : Nat → Nat) (w w' : World) : Prop := (∀ c, c < 103 → w' c = w c) ∧ (∀ i, i < 4 → ∀ c, g i ≤ c → c ≤ g i + 4 → w' c = w c) ∧ (∀ c, 107 ≤ c → c < 110 → w' c = w c) ∧ ∀ c, 150 ≤ c → w' c = w c
theorem F1.ref {g : Nat → Nat} {w w' : World} (h : F1 g w w') (hr : IRef g w) : IRef g w' := by
  refine ⟨hr.1, hr.2.1, ?_⟩
  rw [h.2.2.1 108 (by omega) (by omega), h.2.2.1 109 (by omega) (by omega)]
  exact hr.2.2
/-- swapped from a on, ahead of k -/
def swW (g : Nat → Nat) (a : Nat) (w : World) (k : Nat) : World := fun c q => if c = 108 ∧ a ≤ q ∧ q < k then (g (4 + q) : Int) else if c = 109 ∧ a ≤ q ∧ q < k then (g q : Int) else w c q
def swG (g : Nat → Nat) (a b : Nat) (i : Nat) : Nat := if a ≤ i ∧ i ≤ b then g (4 + i) else if 4 + a ≤ i ∧ i ≤ 4 + b then g (i - 4) else g i
theorem sw_step {g : Nat → Nat} {a k : Nat} {w : World} (hak : a ≤ k) : up (up (swW g a w k) 108 k (g (4 + k) : Int)) 109 k (g k : Int) = swW g a w (k + 1) := by
  funext c q
  unfold up swW
  by_cases e9 : c = 109 ∧ q = k
  · obtain ⟨rfl, rfl⟩ := e9
    rw [if_pos ⟨rfl, rfl⟩, if_neg (by omega), if_pos ⟨rfl, by omega, by omega⟩]
  · rw [if_neg e9]
    by_cases e8 : c = 108 ∧ q = k
    · obtain ⟨rfl, rfl⟩ := e8
      rw [if_pos ⟨rfl, rfl⟩, if_pos ⟨rfl, by omega, by omega⟩]
    · rw [if_neg e8]
      by_cases q1 : c = 108 ∧ a ≤ q ∧ q < k
      · rw [if_pos q1, if_pos (by omega)]
      · rw [if_neg q1]
        by_cases q2 : c = 109 ∧ a ≤ q ∧ q < k
        · rw [if_pos q2, if_neg (by omega), if_pos (by omega)]
        · rw [if_neg q2, if_neg (by omega), if_neg (by omega)]
theorem sw_ref {g : Nat → Nat} {a b : Nat} {w : World} (hb : b < 4) (hr : IRef g w) : IRef (swG g a b) (swW g a w (b + 1)) := by
  obtain ⟨r1, r2, r3⟩ := hr
  have idx : ∀ i, i < 8 → ∃ j, j < 8 ∧ swG g a b i = g j ∧ ((a ≤ i ∧ i ≤ b ∧ j = 4 + i) ∨ (¬ (a ≤ i ∧ i ≤ b) ∧ 4 + a ≤ i ∧ i ≤ 4 + b ∧ j = i - 4) ∨ (¬ (a ≤ i ∧ i ≤ b) ∧ ¬ (4 + a ≤ i ∧ i ≤ 4 + b) ∧ j = i)) := fun i hi => by
    unfold swG
    by_cases q1 : a ≤ i ∧ i ≤ b
    · rw [if_pos q1]; exact ⟨4 + i, by omega, rfl, Or.inl ⟨q1.1, q1.2, rfl⟩⟩
    · rw [if_neg q1]
      by_cases q2 : 4 + a ≤ i ∧ i ≤ 4 + b
      · rw [if_pos q2]; exact ⟨i - 4, by omega, rfl, Or.inr (Or.inl ⟨q1, q2.1, q2.2, rfl⟩)⟩
      · rw [if_neg q2]; exact ⟨i, hi, rfl, Or.inr (Or.inr ⟨q1, q2, rfl⟩)⟩
  refine ⟨fun i hi => ?_, fun i j hi hj he => ?_, fun h h4 => ⟨?_, ?_⟩⟩
  · obtain ⟨j, hj, e, -⟩ := idx i hi
    rw [e]; exact r1 j hj
  · obtain ⟨i', hi', e1, c1⟩ := idx i hi
    obtain ⟨j', hj', e2, c2⟩ := idx j hj
    have := r2 i' j' hi' hj' (by rw [← e1, ← e2]; exact he)
    omega
  · unfold swW swG
    by_cases q1 : a ≤ h ∧ h ≤ b
    · rw [if_pos ⟨rfl, q1.1, by omega⟩, if_pos q1]
    · rw [if_neg (by omega), if_neg (by omega), if_neg q1, if_neg (by omega)]
      exact (r3 h h4).1
  · unfold swW swG
    by_cases q1 : a ≤ h ∧ h ≤ b
    · rw [if_neg (by omega), if_pos ⟨rfl, q1.1, by omega⟩, if_neg (by omega), if_pos (by omega), show 4 + h - 4 = h by omega]
    · rw [if_neg (by omega), if_neg (by omega), if_neg (by omega), if_neg (by omega)]
      exact (r3 h h4).2
theorem swap_n {g : Nat → Nat} {a b : Nat} {w : World} (hb : b < 4) (hr : IRef g w) : ∀ (d k : Nat), k + d = b + 1 → a ≤ k → f_Dm_renew_53 (swW g a w k) (b : Int) (k : Int) = some (up (swW g a w (b + 1)) 150 0 0, 1) := by
  intro d
  induction d with
  | zero =>
    intro k hk hak
    have e : k = b + 1 := by omega
    subst e
    unfold f_Dm_renew_53
    refine lp_out ?_
    show f_Dm_renew_53B (swW g a w (b + 1)) (b : Int) ((b + 1 : Nat) : Int) = _
    unfold f_Dm_renew_53B f_Dm_renew_95
    rw [if_pos (by omega), bl_s, bnd_s]
  | succ d ih =>
    intro k hk hak
    have hk4 : k < 4 := by omega
    have e8 : swW g a w k 108 k = (g k : Int) := by
      unfold swW
      rw [if_neg (by omega), if_neg (by omega)]
      exact (hr.2.2 k hk4).1
    have e9 : swW g a w k 109 k = (g (4 + k) : Int) := by
      unfold swW
      rw [if_neg (by omega), if_neg (by omega)]
      exact (hr.2.2 k hk4).2
    have g8 := hr.rng (i := k) (by omega)
    have g9 := hr.rng (i := 4 + k) (by omega)
    have hm : f_Dm_modelOf (swW g a w k) (k : Int) = some (g k) := by
      unfold f_Dm_modelOf f_Dm_modelOf_26
      rw [if_neg (by omega), if_neg (by omega), gd_t ⟨by omega, by omega⟩, Int.toNat_natCast, e8, Int.toNat_natCast, if_neg (by omega)]
    have hs : f_Dm_spareOf (swW g a w k) (k : Int) = some (g (4 + k)) := by
      unfold f_Dm_spareOf f_Dm_spareOf_26
      rw [if_neg (by omega), if_neg (by omega), gd_t ⟨by omega, by omega⟩, Int.toNat_natCast, e9, Int.toNat_natCast, if_neg (by omega)]
    have hstep : f_Dm_renew_53B (swW g a w k) (b : Int) (k : Int) = some (Sum.inl (swW g a w (k + 1), ((k + 1 : Nat) : Int))) := by
      unfold f_Dm_renew_53B
      rw [if_neg (by omega), if_neg (by omega), hm, bnd_s, hs, bnd_s, gd_t ⟨by omega, by omega⟩, gd_t g9.2.2, bl_s, gd_t ⟨by omega, by omega⟩, gd_t g8.2.2, bl_s, bl_s, Int.toNat_natCast, sw_step hak, wr_of (x := (k : Int) + 1) ⟨by omega, by omega⟩]
      rfl
    have := ih (k + 1) (by omega) (by omega)
    unfold f_Dm_renew_53 at this ⊢
    rw [lp_step (F := fun z : (World × Int) => f_Dm_renew_53B z.1 (b : Int) z.2) hstep]
    exact this
