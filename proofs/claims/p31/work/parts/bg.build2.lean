/-! BOTH: renew, and the reference's building of all -/
theorem OvA_congr {nF m : Nat} {L : Nat → Nat} {w w' : World} {hour wo : Int} (hm : m ≤ 12) (hl : ∀ c, c < 98 → w' c = w c) (h : OvA nF m L w' hour wo) : OvA nF m L w hour wo := by
  unfold OvA at h ⊢
  rw [SA_c5 (fun c _ _ => hl c (by omega)), FFA_congr hl, RrA_c hm hl] at h
  exact h
theorem renew1 {nF m top a b : Nat} {L g : Nat → Nat} {w0 : World} (hS : SttA nF m top L w0) (hr : IRef g w0) (hb : b < 4) (hab : a ≤ b) : ∀ (d k : Nat) (w : World), k + d = b + 1 → a ≤ k → F1 g w0 w → VV (w 104) → (∀ j, a ≤ j → j < k → HAt nF m L w (g (4 + j)) j) →
    ∃ w' v, f_Dm_renew_2 w (a : Int) (b : Int) (k : Int) = some (w', v) ∧ ((v = 1 ∧ ∃ w1, F1 g w0 w1 ∧ VV (w1 104) ∧ (∀ j, a ≤ j → j ≤ b → HAt nF m L w1 (g (4 + j)) j) ∧ w' = up (swW g a w1 (b + 1)) 150 0 0) ∨ (v = 0 ∧ F1 g w0 w' ∧ VV (w' 104) ∧ ∃ h : Nat, a ≤ h ∧ h ≤ b ∧ OvA nF m L w0 (h : Int) 0)) := by
  intro d
  induction d with
  | zero =>
    intro k w hk hak hF hV hH
    have e : k = b + 1 := by omega
    subst e
    have hsw : swW g a w a = w := by
      funext c q
      unfold swW
      rw [if_neg (by omega), if_neg (by omega)]
    have hs := swap_n (a := a) hb (hF.ref hr) (b + 1 - a) a (by omega) (Nat.le_refl _)
    rw [hsw] at hs
    refine ⟨up (swW g a w (b + 1)) 150 0 0, 1, ?_, Or.inl ⟨rfl, w, hF, hV, fun j h1 h2 => hH j h1 (by omega), rfl⟩⟩
    unfold f_Dm_renew_2
    refine lp_out ?_
    show f_Dm_renew_2B w (a : Int) (b : Int) ((b + 1 : Nat) : Int) = _
    unfold f_Dm_renew_2B f_Dm_renew_47
    have hmx : imax (a : Int) 0 = (a : Int) := by unfold imax; split <;> omega
    rw [if_pos (by omega), hmx, bl_s, hs, bnd_s]
  | succ d ih =>
    intro k w hk hak hF hV hH
    have hk4 : k < 4 := by omega
    have hrw := hF.ref hr
    have g9 := hrw.rng (i := 4 + k) (by omega)
    have hl : ∀ c, c < 98 → w c = w0 c := fun c hc => hF.1 c (by omega)
    obtain ⟨w', N, ρ, c, Lc, b1, b2, b3, b4, b5, b6⟩ := buildA1 (hour := (k : Int)) (wo := 0) (x4 := 0) (hS.congr hl) hV g9.2.2
    have hl' : ∀ c, c < 98 → w' c = w c := fun c hc => b3 c (by omega) (by omega)
    have hF' : F1 g w0 w' := by
      refine ⟨fun c hc => (b3 c (by omega) (by omega)).trans (hF.1 c hc), fun i hi c h1 h2 => ?_, fun c h1 h2 => (b3 c (by omega) (by omega)).trans (hF.2.2.1 c h1 h2), fun c hc => (b3 c (by omega) (by omega)).trans (hF.2.2.2 c hc)⟩
      have hap := hrw.apart (i := i) (j := 4 + k) (by omega) (by omega) (by omega)
      have hg := hrw.rng (i := i) (by omega)
      exact (b3 c (by omega) (by omega)).trans (hF.2.1 i hi c h1 h2)
    have hsp := spareOf_n hrw hk4
    rcases b6 with ⟨z, hL⟩ | ⟨z, hO⟩
    · obtain ⟨w'', v, q1, q2⟩ := ih (k + 1) w' (by omega) (by omega) hF' b2 (fun j h1 h2 => by
        by_cases e : j = k
        · subst e
          refine ⟨N, ρ, c, Lc, b4, b5, z, ?_⟩
          rw [SA_c5 (fun c _ _ => hl' c (by omega)), FFA_congr hl', RrA_c hS.2.2.2.2.2.2.2 hl']
          exact hL
        · have hap := hrw.apart (i := 4 + j) (j := 4 + k) (by omega) (by omega) (by omega)
          have hg := hrw.rng (i := 4 + j) (by omega)
          exact HAt_congr hS.2.2.2.2.2.2.2 hl' (fun c x y => b3 c (by omega) (by omega)) (hH j h1 (by omega)))
      refine ⟨w'', v, ?_, q2⟩
      have hstep : f_Dm_renew_2B w (a : Int) (b : Int) (k : Int) = some (Sum.inl (w', ((k + 1 : Nat) : Int))) := by
        unfold f_Dm_renew_2B
        rw [if_neg (by omega), if_neg (by omega), hsp, bnd_s, gd_t g9.2.2, b1, bnd_s, if_pos z, bl_s, wr_of (x := (k : Int) + 1) ⟨by omega, by omega⟩]
        rfl
      unfold f_Dm_renew_2 at q1 ⊢
      rw [lp_step (F := fun z : (World × Int) => f_Dm_renew_2B z.1 (a : Int) (b : Int) z.2) hstep]
      exact q1
    · refine ⟨w', 0, ?_, Or.inr ⟨rfl, hF', b2, k, hak, by omega, OvA_congr hS.2.2.2.2.2.2.2 hl hO⟩⟩
      unfold f_Dm_renew_2
      refine lp_out ?_
      show f_Dm_renew_2B w (a : Int) (b : Int) (k : Int) = _
      unfold f_Dm_renew_2B
      rw [if_neg (by omega), if_neg (by omega), hsp, bnd_s, gd_t g9.2.2, b1, bnd_s, if_neg (by rw [z]; exact z10)]
theorem renew_n {nF m top a b : Nat} {L g : Nat → Nat} {w : World} (hS : SttA nF m top L w) (hV : VV (w 104)) (hr : IRef g w) (hb : b < 4) (hab : a ≤ b) :
    ∃ w' v, f_Dm_renew w (a : Int) (b : Int) = some (w', v) ∧ ((v = 1 ∧ IRef (swG g a b) w' ∧ VV (w' 104) ∧ w' 150 0 = 0 ∧ (∀ c, c < 103 → w' c = w c) ∧ (∀ h, a ≤ h → h ≤ b → HAt nF m L w' (swG g a b h) h) ∧ (∀ h, h < 4 → ¬ (a ≤ h ∧ h ≤ b) → swG g a b h = g h ∧ ∀ c, g h ≤ c → c ≤ g h + 4 → w' c = w c)) ∨ (v = 0 ∧ F1 g w w' ∧ VV (w' 104) ∧ ∃ h : Nat, a ≤ h ∧ h ≤ b ∧ OvA nF m L w (h : Int) 0)) := by
  obtain ⟨w', v, r1, r2⟩ := renew1 hS hr hb hab (b + 1 - a) a w (by omega) (Nat.le_refl _) ⟨fun _ _ => rfl, fun _ _ _ _ _ => rfl, fun _ _ _ => rfl, fun _ _ => rfl⟩ hV (fun j h1 h2 => absurd h2 (by omega))
  refine ⟨w', v, r1, ?_⟩
  rcases r2 with ⟨hv, w1, hF, hV1, hH, hw⟩ | h
  · refine Or.inl ⟨hv, ?_⟩
    have far : ∀ c, c ≠ 108 → c ≠ 109 → c ≠ 150 → w' c = w1 c := fun c h1 h2 h3 => by
      rw [hw]
      funext q
      unfold up swW
      rw [if_neg (by omega), if_neg (by omega), if_neg (by omega)]
    have hsr := sw_ref (a := a) hb (hF.ref hr)
    refine ⟨⟨hsr.1, hsr.2.1, fun h h4 => ?_⟩, ?_, ?_, fun c hc => ?_, fun h h1 h2 => ?_, fun h h4 hn => ?_⟩
    · have := hsr.2.2 h h4
      have e : ∀ q, w' 108 q = swW g a w1 (b + 1) 108 q ∧ w' 109 q = swW g a w1 (b + 1) 109 q := fun q => by
        rw [hw]
        unfold up
        rw [if_neg (by omega), if_neg (by omega)]
        exact ⟨rfl, rfl⟩
      rw [(e h).1, (e h).2]
      exact this
    · rw [far 104 (by omega) (by omega) (by omega)]; exact hV1
    · rw [hw]; simp [up]
    · rw [far c (by omega) (by omega) (by omega)]; exact hF.1 c hc
    · have e : swG g a b h = g (4 + h) := by
        unfold swG
        rw [if_pos ⟨h1, h2⟩]
      have hg := hr.rng (i := 4 + h) (by omega)
      rw [e]
      exact HAt_congr hS.2.2.2.2.2.2.2 (fun c hc => far c (by omega) (by omega) (by omega)) (fun c x y => far c (by omega) (by omega) (by omega)) (hH h h1 h2)
    · have hg := hr.rng (i := h) (by omega)
      refine ⟨?_, fun c x y => ?_⟩
      · unfold swG
        rw [if_neg hn, if_neg (by omega)]
      · rw [far c (by omega) (by omega) (by omega)]
        exact hF.2.1 h h4 c x y
  · exact Or.inr h
def SttB (nF m : Nat) (L : Nat → Nat) (w : World) : Prop := WfT w ∧ PrB (SA w) (lvf L) (RrB m w) m w ∧ PrCB (RrB m w) m w ∧ FaB nF w ∧ ∀ q : Nat, q < 10 → lvf L (q : Int) < 10
theorem Stt.B {nF m top : Nat} {L : Nat → Nat} {wA wB : World} (h : Stt nF m top L wA wB) : SttB nF m L wB := by
  obtain ⟨r1, r2⟩ := h.RRs
  obtain ⟨i1, i2, i3, i7⟩ := h
  exact ⟨i1.T, r1, r2, i2.2.1, fun q hq => by
    rw [lvf_n hq]
    have := i7.1.2.2.1 q hq
    have := i7.2.2.1
    omega⟩
/-- all but the models and the search -/
def FrAll (w w' : World) : Prop := ∀ c k, c ≠ 20 → c ≠ 21 → c ≠ 22 → c ≠ 23 → c ≠ 24 → c ≠ 25 → ¬ (c = 1 ∧ (k = 29 ∨ k = 30)) → w' c k = w c k
theorem FrAll.cell {w w' : World} (h : FrAll w w') {c : Nat} (h1 : c ≠ 1) (h2 : c < 20 ∨ 25 < c) : w' c = w c := funext (fun k => h c k (by omega) (by omega) (by omega) (by omega) (by omega) (by omega) (fun z => h1 z.1))
theorem FrAll.f {w w' : World} (h : FrAll w w') {k : Nat} (h1 : k ≠ 29) (h2 : k ≠ 30) : w' 1 k = w 1 k := h 1 k (by decide) (by decide) (by decide) (by decide) (by decide) (by decide) (fun z => z.2.elim h1 h2)
theorem SttB.congr {nF m M : Nat} {L : Nat → Nat} {w w' : World} (hF : FrR M w w') (h : SttB nF m L w) : SttB nF m L w' := by
  obtain ⟨s1, s2, s3, s4, s5⟩ := h
  have e : ∀ c, 2 ≤ c → c < 20 → w' c = w c := fun c h1 h2 => hF.cell (by omega) (by omega)
  have hSA : SA w' = SA w := SA_c5 (fun c a b => e c (by omega) (by omega))
  have hR := RrB_c (m := m) e
  refine ⟨WfT_congr (fun c a b => e c (by omega) (by omega)) s1, ?_, ?_, FaB_congr hF s4, s5⟩
  · rw [hSA, hR]; exact PrB_congr hF s2
  · rw [hR]; exact PrCB_congr hF s3
theorem HBt_congr {nF m M h : Nat} {L : Nat → Nat} {w w' : World} (hF : FrR M w w') (hne : h ≠ M) (hB : HBt nF m L w h) : HBt nF m L w' h := by
  have e : ∀ c, 2 ≤ c → c < 20 → w' c = w c := fun c h1 h2 => hF.cell (by omega) (by omega)
  obtain ⟨n, ρ, c, a1, a2, a3, a4⟩ := hB
  refine ⟨n, ρ, c, BMod_q (fun c _ _ => e c (by omega) (by omega)) (hF.2.1 h hne) (fun s hs => hF.2.2.1 _ (by omega)) (fun s hs => hF.2.2.2 _ (by omega)) a1, VCs_3 (e 3 (by omega) (by omega)) a2, a3, ?_⟩
  rw [SA_c5 (fun c _ _ => e c (by omega) (by omega)), FFB_c e, RrB_c e]
  exact a4
theorem buildAll1 {nF m : Nat} {L : Nat → Nat} {w0 : World} : ∀ (d k : Nat) (w : World) (x1 : Int), k + d = 4 → FrAll w0 w → VB w → SttB nF m L w → ((x1 = 1 ∧ ∀ h, h < k → HBt nF m L w h) ∨ (x1 = 0 ∧ ∃ h : Nat, h < 4 ∧ OvBt nF m L w0 (h : Int) 0)) →
    ∃ w' v, f_Re_buildAll_4 w x1 (k : Int) = some (w', v) ∧ FrAll w0 w' ∧ VB w' ∧ SttB nF m L w' ∧ ((v = 1 ∧ ∀ h, h < 4 → HBt nF m L w' h) ∨ (v = 0 ∧ ∃ h : Nat, h < 4 ∧ OvBt nF m L w0 (h : Int) 0)) := by
  intro d
  induction d with
  | zero =>
    intro k w x1 hk hF hV hS hx
    have e : k = 4 := by omega
    subst e
    refine ⟨w, x1, ?_, hF, hV, hS, hx⟩
    unfold f_Re_buildAll_4
    refine lp_out ?_
    show f_Re_buildAll_4B w x1 ((4 : Nat) : Int) = _
    unfold f_Re_buildAll_4B
    rw [if_pos (by decide), gd_t (by rcases hx with ⟨z, -⟩ | ⟨z, -⟩; exact Or.inr z; exact Or.inl z)]
  | succ d ih =>
    intro k w x1 hk hF hV hS hx
    have hk4 : k < 4 := by omega
    obtain ⟨w', v, n, ρ, c, b1, b2, b3, b4, b5, b6⟩ := buildB_n (M := k) (hour := (k : Int)) (wo := 0) (FF := FFB nF w (k : Int) 0) (by omega) hS.1 hV hS.2.1 hS.2.2.1 hS.2.2.2.1 (fun r k => Iff.rfl) hS.2.2.2.2
    have e : ∀ c, 2 ≤ c → c < 20 → w' c = w c := fun c h1 h2 => b2.cell (by omega) (by omega)
    have e0 : ∀ c, 2 ≤ c → c < 20 → w c = w0 c := fun c h1 h2 => hF.cell (by omega) (by omega)
    have hF' : FrAll w0 w' := fun c k a1 a2 a3 a4 a5 a6 a7 => (b2.1 c k a1 a2 a3 a4 a5 a6 a7).trans (hF c k a1 a2 a3 a4 a5 a6 a7)
    have hov : v = 0 → OvBt nF m L w0 (k : Int) 0 := fun hv => by
      rcases b6 with ⟨z, -⟩ | ⟨-, hO⟩
      · rw [hv] at z; exact absurd z (by decide)
      · refine ⟨n, ρ, c, 10, ?_, ?_⟩
        · have := BMod_OkM b3
          rw [SA_c5 (fun c _ _ => e c (by omega) (by omega)), SA_c5 (fun c _ _ => e0 c (by omega) (by omega))] at this
          exact this
        · rw [SA_c5 (fun c _ _ => e0 c (by omega) (by omega)), FFB_c e0, RrB_c e0] at hO
          exact hO
    have hgo : ∀ x : Int, f_Re_buildAll_4B w x1 (k : Int) = some (Sum.inl (w', x, ((k + 1 : Nat) : Int))) → ((x = 1 ∧ ∀ h, h < k + 1 → HBt nF m L w' h) ∨ (x = 0 ∧ ∃ h : Nat, h < 4 ∧ OvBt nF m L w0 (h : Int) 0)) → ∃ w' v, f_Re_buildAll_4 w x1 (k : Int) = some (w', v) ∧ FrAll w0 w' ∧ VB w' ∧ SttB nF m L w' ∧ ((v = 1 ∧ ∀ h, h < 4 → HBt nF m L w' h) ∨ (v = 0 ∧ ∃ h : Nat, h < 4 ∧ OvBt nF m L w0 (h : Int) 0)) := fun x hstep hx' => by
      obtain ⟨w'', v', q1, q2⟩ := ih (k + 1) w' x (by omega) hF' b5 (hS.congr b2) hx'
      refine ⟨w'', v', ?_, q2⟩
      unfold f_Re_buildAll_4 at q1 ⊢
      rw [lp_step (F := fun z : (World × Int × Int) => f_Re_buildAll_4B z.1 z.2.1 z.2.2) hstep]
      exact q1
    have h30 : ∀ x : Int, f_Re_buildAll_30 w' (k : Int) x = some (Sum.inl (w', x, ((k + 1 : Nat) : Int))) := fun x => by
      unfold f_Re_buildAll_30
      rw [bl_s, wr_of (x := (k : Int) + 1) ⟨by omega, by omega⟩]
      rfl
    have hbody : f_Re_buildAll_4B w x1 (k : Int) = if x1 = 0 then f_Re_buildAll_30 w' (k : Int) 0 else (if v = 0 then f_Re_buildAll_30 w' (k : Int) 0 else f_Re_buildAll_30 w' (k : Int) 1) := by
      unfold f_Re_buildAll_4B f_Re_buildAll_29
      rw [if_neg (by omega), b1, bnd_s]
    rcases hx with ⟨z, hH⟩ | ⟨z, hO⟩
    · rcases b6 with ⟨hv, hn, hL⟩ | ⟨hv, -⟩
      · refine hgo 1 (by rw [hbody, if_neg (by omega), if_neg (by omega), h30]) (Or.inl ⟨rfl, fun h hh => ?_⟩)
        by_cases q : h = k
        · subst q
          refine ⟨n, ρ, c, b3, b4, hn, ?_⟩
          rw [SA_c5 (fun c _ _ => e c (by omega) (by omega)), FFB_c e, RrB_c e]
          exact hL
        · exact HBt_congr b2 q (hH h (by omega))
      · exact hgo 0 (by rw [hbody, if_neg (by omega), if_pos hv, h30]) (Or.inr ⟨rfl, k, hk4, hov hv⟩)
    · exact hgo 0 (by rw [hbody, if_pos z, h30]) (Or.inr ⟨rfl, hO⟩)
theorem buildAllB_n {nF m : Nat} {L : Nat → Nat} {w : World} (hS : SttB nF m L w) (hV : VB w) : ∃ w' v, f_Re_buildAll w = some (w', v) ∧ FrAll w w' ∧ VB w' ∧ SttB nF m L w' ∧ ((v = 1 ∧ ∀ h, h < 4 → HBt nF m L w' h) ∨ (v = 0 ∧ ∃ h : Nat, h < 4 ∧ OvBt nF m L w (h : Int) 0)) :=
  buildAll1 4 0 w 1 (by omega) (fun _ _ _ _ _ _ _ _ _ => rfl) hV hS (Or.inl ⟨rfl, fun h hh => absurd hh (by omega)⟩)
