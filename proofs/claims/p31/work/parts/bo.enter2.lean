/-! BOTH: enter answers alike -/
theorem enter_back {nF m d now top : Nat} {L g : Nat → Nat} {wA wB ws wx ux : World} (hI : Inv nF m d now top L g wA wB) (hm12 : m < 12) (hs : ∀ c, c ≠ 21 → c ≠ 14 → (c < 22 + 4 * m ∨ 22 + 4 * m + 3 < c) → ws c = wA c) (hrs : IRef g ws) (hRx : LowR nF (m + 1) d now wx ux) (hFx : F1 g ws wx) (hVx : VV (wx 104)) (hVBx : VB ux) (hwx : wx 14 4 = ((m + 1 : Nat) : Int)) (hux : ux 1 14 = ((m + 1 : Nat) : Int)) : ∃ (wf uf : World), f_Dm_enter_83 wx = some (wf, 3, 0) ∧ f_Re_enter_100 ux = some (up uf 1 0 2, 0) ∧ II wf (up uf 1 0 2) := by
  have i8 : IRef g wA := hI.2.2.2.2.2.2.2.1
  have i9 : ∀ h, h < 4 → IHou nF m L g wA wB now h := hI.2.2.2.2.2.2.2.2.1
  have hL := hI.low
  clear hI
  have em2 : wr (((m + 1 : Nat) : Int) - 1) = (m : Int) := by rw [wr_of (x := ((m + 1 : Nat) : Int) - 1) ⟨by omega, by omega⟩]; omega
  obtain ⟨wA2, hw2⟩ : ∃ w, w = up wx 14 4 (m : Int) := ⟨_, rfl⟩
  obtain ⟨wB2, hu2⟩ : ∃ w, w = up ux 1 14 (m : Int) := ⟨_, rfl⟩
  have hR2 : LowR nF m d now wA2 wB2 := by rw [hw2, hu2]; exact LowR_cut hRx
  have a2C : ∀ c, c ≠ 14 → wA2 c = wx c := fun c h => by rw [hw2]; funext k; simp [up, h]
  have b2C : ∀ c, c ≠ 1 → wB2 c = ux c := fun c h => by rw [hu2]; funext k; simp [up, h]
  have all : ∀ c, c < 98 → c ≠ 21 → c ≠ 14 → (c < 22 + 4 * m ∨ 22 + 4 * m + 3 < c) → wA2 c = wA c := fun c h1 h2 h3 h4 => by
    rw [a2C c h3, hFx.1 c (by omega), hs c h2 h3 h4]
  have low : ∀ c, c < 14 → wA2 c = wA c := fun c h => all c (by omega) (by omega) (by omega) (by omega)
  have high : ∀ c, 98 ≤ c → ws c = wA c := fun c h => hs c (by omega) (by omega) (by omega)
  have hRr2 : RrA m wA2 = RrA m wA := RrA_rows (fun j hj => ⟨RB_congr (all _ (by omega) (by omega) (by omega) (by omega)) (all _ (by omega) (by omega) (by omega) (by omega)) (all _ (by omega) (by omega) (by omega) (by omega)) (all _ (by omega) (by omega) (by omega) (by omega)), by rw [all _ (by omega) (by omega) (by omega) (by omega)]⟩)
  have hr2 : IRef g wA2 := by
    have := hFx.ref hrs
    exact ⟨this.1, this.2.1, by rw [a2C 108 (by omega), a2C 109 (by omega)]; exact this.2.2⟩
  have e150 : wA2 150 = wA 150 := by rw [a2C 150 (by omega), hFx.2.2.2 150 (by omega), high 150 (by omega)]
  have e151 : wA2 151 = wA 151 := by rw [a2C 151 (by omega), hFx.2.2.2 151 (by omega), high 151 (by omega)]
  have eFF : ∀ (h : Nat) r' k', FFA nF wA (h : Int) 0 r' k' ↔ FFA nF wA2 (h : Int) 0 r' k' := fun h r' k' => by
    unfold FFA FaC
    rw [low 8 (by omega), low 9 (by omega), low 11 (by omega), low 12 (by omega), low 13 (by omega)]
  have eFC : ∀ h : Nat, FCA nF wA2 (h : Int) = FCA nF wA (h : Int) := fun h => by
    unfold FCA FaC
    rw [low 8 (by omega), low 9 (by omega), low 10 (by omega), low 11 (by omega), low 12 (by omega), low 13 (by omega)]
  have hcs : ∀ h, h < 4 → HAc nF m L wA2 (g h) now h := fun h h4 => by
    have hg := i8.rng (i := h) (by omega)
    refine HAc_g (nF' := nF) (m' := m) (w' := wA2) ((i9 h h4).A.1) (fun k h1 h2 => low k (by omega)) (fun k h1 h2 => ?_) (eFF h) (by rw [hRr2]; exact RS.refl) (Or.inr ⟨by rw [e150], e151, eFC h⟩)
    rw [a2C k (by omega), hFx.2.1 h h4 k h1 h2, high k (by omega)]
  obtain ⟨w3, v3, u3, u4, top3, L3, t1, t2, t3, t4⟩ := both_again hL hR2 hRr2 (SA_c5 (fun c a b => low c (by omega))) hr2 (by rw [a2C 104 (by omega)]; exact hVx) (VB_congr (b2C 23 (by omega)) (b2C 24 (by omega)) hVBx) hcs
  refine ⟨w3, u4, ?_, ?_, nF, m, d, now, top3, L3, g, Inv_up10 t4⟩
  · unfold f_Dm_enter_83 f_Pr_takeBack
    rw [hwx, em2, bl_s, ← hw2, t1, bnd_s, bnd_s]
  · unfold f_Re_enter_100
    rw [hux, em2, bl_s, ← hu2, t2, bnd_s, t3, bnd_s, refused_n, bnd_s]
theorem st_enter : St_enter II := by
  intro wA wB hII
  obtain ⟨nF, m, d, now, top, L, g, hI⟩ := id hII
  obtain ⟨n, hn5, hnA, hnB, hlA, hlB⟩ := drf_n hI
  obtain ⟨i1, i2, i3, i4, i5, i6, i7, i8, i9, i10, i11⟩ := id hI
  obtain ⟨e1, e2, e3, e4, e5, e6⟩ := id i5
  have hm : m ≤ 12 := i3.1.2.2.1
  have nA : wA 14 4 = (m : Int) := i3.1.2.1
  have nB : wB 1 14 = (m : Int) := i3.2.1.1
  have hno : ∀ x : Int, ¬ x = 0 → f_Re_enter_50 wB x = some (up wB 1 0 x, 0) := fun x hx => by
    unfold f_Re_enter_50
    rw [refused_n, bnd_s]
    show (if (if x = 0 then (0 : Int) else 1) = 0 then _ else some (up wB 1 0 x, 0)) = _
    rw [if_neg hx]
    exact if_neg z10
  have h25 : f_Re_enter_25 wB = some (up wB 1 0 1, 0) := by
    unfold f_Re_enter_25 f_Re_enter_26
    rw [if_pos rfl, hno 1 z10]
  rcases e6 with hnil | ⟨⟨r, hr, htg, hd, hzz⟩, hht⟩
  · refine no_v (e := 2) (x := 1) (fun e => e = 0 ∨ e = 2 ∨ e = 3) hII (by decide) ?_ ?_ rfl (Or.inr (Or.inl rfl))
    · unfold f_Dm_enter
      rw [hnil, if_pos rfl]
    · unfold f_Re_enter
      rw [e5, hnil, if_pos rfl, h25]
  have hRE : RE (RB wA 94) (RBB wB 18) := ⟨e3.1, e3.2, by show wB 14 18 = wA 94 1; exact e5, fun c hc => (hht c hc).1⟩
  have hwfA : WfR (SA wA) (RB wA 94) := by
    obtain ⟨w1, w2, w3, w4, w5⟩ := e1.2
    have etg : (RB wA 94).tg = (r : Int) := htg
    refine ⟨w1, w2, w3, w4, ⟨?_, fun c hc h3 => ?_⟩, w5, fun c hc => (hht c hc).2⟩
    · rw [etg, SA_co hr]; omega
    · rw [etg, SA_co hr] at hc
      exact hzz c h3 (by omega)
  obtain ⟨sv, hsv, hsv2⟩ := isSafeA_n e1.1 e1.2 (fun c hc => (hht c hc).2)
  obtain ⟨bv, hbv, hbv2⟩ := isSafeB_n (x2 := 1) e2 (fun _ => ⟨⟨r, hr, by show wB 14 18 = (r : Int); rw [e5]; exact htg, fun c h1 h2 => by rw [(hht c h2).1]; exact hzz c h2 (by rw [(i1.2 r hr).1] at h1; exact h1)⟩, fun c hc => by rw [(hht c hc).1]; exact (hht c hc).2⟩)
  have hbv : f_Re_isSafe wB 18 1 = some bv := hbv
  have n1 : ¬ wA 94 1 = -1 := by rw [htg]; omega
  by_cases qs : SafeL (RB wA 94) ∧ SafeH (RB wA 94)
  · have hs1 : sv = 1 := by
      rcases hsv2 with ⟨z, -⟩ | ⟨-, z⟩
      · exact z
      · exact absurd qs z
    have hb1 : bv = 1 := by
      rcases hbv2 with ⟨z, -⟩ | ⟨-, z⟩
      · exact z
      · exact absurd ⟨e3.safeL.mp qs.1, fun _ => hRE.safeH qs.2⟩ z
    subst hs1
    subst hb1
    have hA0 : f_Dm_enter wA = if (m : Int) < 12 then (bnd (f_Pr_append wA 94) fun v13 => bnd (f_Pr_stratify v13 ) fun v16 => if v16.2 = 0 then (f_Dm_enter_83 v16.1) else (bnd (f_Dm_renew v16.1 0 3) fun v21 => if v21.2 = 0 then (f_Dm_enter_83 v21.1) else (bnd (f_Bo_empty v21.1 94) fun v26 => some (v26, 0, wr ((v26 14 4) - 1))))) else some (wA, 3, 0) := by
      unfold f_Dm_enter
      rw [if_neg n1, hsv, bnd_s, if_neg z10, nA]
    have hB0 : f_Re_enter wB = if (m : Int) = 12 then f_Re_enter_50 wB 2 else f_Re_enter_50 wB 0 := by
      unfold f_Re_enter f_Re_enter_26
      rw [e5, if_neg n1, hbv, bnd_s, if_neg z10, if_neg z10, nB]
    by_cases q12 : m = 12
    · exact no_v (e := 3) (x := 2) (fun e => e = 0 ∨ e = 2 ∨ e = 3) hII (by decide) (by rw [hA0, if_neg (by omega)]) (by rw [hB0, if_pos (by omega), hno 2 z20]) rfl (Or.inr (Or.inr rfl))
    have hm12 : m < 12 := by omega
    -- the class's row
    obtain ⟨wc, a1, a2, a3, a4, a5⟩ := copyA_n (w := wA) (b := 22 + 4 * m) (s := 94) (n := n) (by omega) hnA hn5
    have hkd : kdA (22 + 4 * m) = 1 := by
      have : ∀ j, j < 12 → kdA (22 + 4 * j) = 1 := by decide +kernel
      exact this m hm12
    have em1 : wr ((m : Int) + 1) = ((m + 1 : Nat) : Int) := by rw [wr_of (x := (m : Int) + 1) ⟨by omega, by omega⟩]; omega
    have em2 : wr (((m + 1 : Nat) : Int) - 1) = (m : Int) := by rw [wr_of (x := ((m + 1 : Nat) : Int) - 1) ⟨by omega, by omega⟩]; omega
    obtain ⟨wA1, hw1⟩ : ∃ w, w = up wc 14 4 ((m + 1 : Nat) : Int) := ⟨_, rfl⟩
    have happ : f_Pr_append wA 94 = some wA1 := by
      unfold f_Pr_append
      rw [nA, rule_n (by omega) (i3.1.2.2.2.1 m hm12), bnd_s, gd_t hkd, a1, bnd_s]
      have : wc 14 4 = (m : Int) := by rw [a2 14 (by omega)]; exact nA
      rw [this, em1, bl_s, ← hw1]
    have fA : ∀ c, c ≠ 14 → (c < 22 + 4 * m ∨ 22 + 4 * m + 3 < c) → wA1 c = wA c := fun c h1 h2 => by
      rw [← a2 c h2, hw1]
      funext k
      simp [up, h1]
    have fAc : ∀ c, c ≠ 14 → wA1 c = wc c := fun c h1 => by
      rw [hw1]
      funext k
      simp [up, h1]
    have fA14 : ∀ k, k ≠ 4 → wA1 14 k = wA 14 k := fun k h => by
      rw [hw1, ← a2 14 (by omega)]
      simp [up, h]
    have fA4 : wA1 14 4 = ((m + 1 : Nat) : Int) := by rw [hw1]; simp [up]
    have hRBn : RB wA1 (22 + 4 * m) = RB wc (22 + 4 * m) := RB_congr (fAc _ (by omega)) (fAc _ (by omega)) (fAc _ (by omega)) (fAc _ (by omega))
    have reA : RE (RB wA 94) (RB wA1 (22 + 4 * m)) := by rw [hRBn]; exact a3
    have hSA1 : SA wA1 = SA wA := SA_c5 (fun c a b => fA c (by omega) (by omega))
    have flA : wA1 (22 + 4 * m) 2 = 0 := by rw [fAc _ (by omega)]; exact a5
    have hlnA : (RB wA1 (22 + 4 * m)).ln = n := by rw [reA.1, hlA]
    have hnewA : RuA wA1 (22 + 4 * m) := by
      refine ⟨by rw [hlnA, fAc _ (by omega)]; exact a4, ?_, r, hr, ?_⟩
      · rw [hSA1]; exact reA.wf hwfA
      · rw [reA.2.2.1]; exact htg
    -- the reference's row
    obtain ⟨u0, hu0⟩ : ∃ u, u = up wB 1 0 0 := ⟨_, rfl⟩
    have u0f : ∀ c, c ≠ 1 → u0 c = wB c := fun c hc => by rw [hu0]; exact up10 hc
    have hRu : RBB u0 18 = RBB wB 18 := RBB_congr (fun c a b => u0f c (by omega)) 18
    have u14 : u0 1 14 = (m : Int) := by rw [hu0, up10_f (by decide)]; exact nB
    obtain ⟨uc, b1, b2, b3, b4⟩ := copyB_n (w := u0) (ru := m) (by omega) (by rw [hRu, hlB]; exact hn5)
    rw [hRu] at b3
    have uc14 : uc 1 14 = (m : Int) := by rw [b2 1 14 (by omega)]; exact u14
    obtain ⟨wB1, hu1⟩ : ∃ w, w = up (up uc 13 m 0) 1 14 ((m + 1 : Nat) : Int) := ⟨_, rfl⟩
    have fBc : ∀ c, c ≠ 1 → c ≠ 13 → wB1 c = uc c := fun c h1 h2 => by rw [hu1]; funext k; simp [up, h1, h2]
    have fB : ∀ c, c ≠ 1 → c ≠ 13 → (c < 14 ∨ 19 < c) → wB1 c = wB c := fun c h1 h2 h3 => by
      rw [fBc c h1 h2, ← u0f c h1]
      funext k
      exact b2 c k (by omega)
    have fB13 : ∀ k, k ≠ m → wB1 13 k = wB 13 k := fun k h => by
      have : wB1 13 k = uc 13 k := by rw [hu1]; simp [up, h]
      rw [this, b2 13 k (by omega), u0f 13 (by omega)]
    have fB13m : wB1 13 m = 0 := by rw [hu1]; simp [up]
    have fB1 : ∀ k, k ≠ 0 → k ≠ 14 → wB1 1 k = wB 1 k := fun k h1 h2 => by
      have : wB1 1 k = uc 1 k := by rw [hu1]; simp [up, h2]
      rw [this, b2 1 k (by omega), hu0, up10_f h1]
    have fB14 : wB1 1 14 = ((m + 1 : Nat) : Int) := by rw [hu1]; simp [up]
    have fB10 : wB1 1 0 = 0 := by
      have : wB1 1 0 = uc 1 0 := by rw [hu1]; simp [up]
      rw [this, b2 1 0 (by omega), hu0]; simp [up]
    have hRBBc : ∀ j, RBB wB1 j = RBB uc j := fun j => RBB_congr (fun c a b => fBc c (by omega) (by omega)) j
    have reB : RE (RBB wB 18) (RBB wB1 m) := by rw [hRBBc]; exact b3
    have hSB1 : SA wB1 = SA wB := SA_c5 (fun c a b => fB c (by omega) (by omega) (by omega))
    have hRow : ∀ ru, ru ≠ m → ru < 19 → (RBB wB ru).ln ≤ 5 → RE (RBB wB ru) (RBB wB1 ru) ∧ wB1 16 ru = wB 16 ru := fun ru h1 h2 h5 => by
      have e : ∀ c k, c ≠ 1 → u0 c k = wB c k := fun c k hc => by rw [u0f c hc]
      rw [hRBBc]
      have e16 : uc 16 ru = wB 16 ru := by rw [b2 16 ru (by omega), e 16 _ (by decide)]
      refine ⟨⟨?_, fun p hp => ⟨?_, ?_, fun c hc => ?_⟩, ?_, fun c hc => ?_⟩, by rw [fBc 16 (by omega) (by omega)]; exact e16⟩
      · show (uc 16 ru).toNat = (wB 16 ru).toNat
        rw [e16]
      · show uc 17 (5 * ru + p) = wB 17 (5 * ru + p)
        rw [b2 17 _ (by omega), e 17 _ (by decide)]
      · show uc 18 (5 * ru + p) = wB 18 (5 * ru + p)
        rw [b2 18 _ (by omega), e 18 _ (by decide)]
      · show uc 19 (3 * (5 * ru + p) + c) = wB 19 (3 * (5 * ru + p) + c)
        rw [b2 19 _ (by omega), e 19 _ (by decide)]
      · show uc 14 ru = wB 14 ru
        rw [b2 14 _ (by omega), e 14 _ (by decide)]
      · show uc 15 (3 * ru + c) = wB 15 (3 * ru + c)
        rw [b2 15 _ (by omega), e 15 _ (by decide)]
    have hnewB : RuB wB1 m ∧ Rng (RBB wB1 m) := by
      have hrA : Rng (RB wA1 (22 + 4 * m)) := hnewA.rng
      refine ⟨⟨by omega, WfT_congr (fun c a b => fB c (by omega) (by omega) (by omega)) i1.T, ?_, ?_⟩, Rng_E (reA.symm.trans (hRE.trans reB)) hrA⟩
      · rw [fBc 16 (by omega) (by omega), b4, u0f 16 (by omega), reB.1, hlB]
        exact hnB
      · rw [hSB1, i1.SA]
        exact (hRE.trans reB).wf hwfA
    have hL := hI.low
    have hR1 : LowR nF (m + 1) d now wA1 wB1 := LowR_row hm12 (fun c _ h2 h3 => fA c h2 h3) fA14 fA4 (fun c h1 h2 => fB c (by omega) (by omega) (by omega)) fB13 (fun k hk => fB1 k (by omega) (by omega)) fB14 hRow hnewA hnewB ⟨reA.symm.trans (hRE.trans reB), by rw [flA]; exact fB13m, Or.inl flA, reA.T.safeL.mp qs.1, reA.safeH qs.2, reA.T.few e4⟩ hL.R
    obtain ⟨ws, sv, L1, top1, us, s1, s2, s3, s4, s5, s6⟩ := both_strata hR1
    have sC : ∀ c, c ≠ 21 → c ≠ 14 → ws c = wA1 c := fun c h1 h2 => s3.cell h1 h2
    have hrs : IRef g ws := ⟨i8.1, i8.2.1, by rw [sC 108 (by omega) (by omega), sC 109 (by omega) (by omega), fA 108 (by omega) (by omega), fA 109 (by omega) (by omega)]; exact i8.2.2⟩
    have hVs : VV (ws 104) := by rw [sC 104 (by omega) (by omega), fA 104 (by omega) (by omega)]; exact i10
    have hVBs : VB us := VB_congr (by rw [s4 23 (by omega), fB 23 (by omega) (by omega) (by omega)]) (by rw [s4 24 (by omega), fB 24 (by omega) (by omega) (by omega)]) i11
    have us14 : us 1 14 = ((m + 1 : Nat) : Int) := by rw [s4 1 (by omega)]; exact fB14
    have ws4 : ws 14 4 = ((m + 1 : Nat) : Int) := by rw [s3 14 4 (by decide) (fun z => absurd z.2 (by decide))]; exact fA4
    -- taken back
    have back : ∀ wx ux : World, LowR nF (m + 1) d now wx ux → F1 g ws wx → VV (wx 104) → VB ux → wx 14 4 = ((m + 1 : Nat) : Int) → ux 1 14 = ((m + 1 : Nat) : Int) → ∃ (wf uf : World), f_Dm_enter_83 wx = some (wf, 3, 0) ∧ f_Re_enter_100 ux = some (up uf 1 0 2, 0) ∧ II wf (up uf 1 0 2) :=
      fun wx ux h1 h2 h3 h4 h5 h6 => enter_back hI hm12 (fun c a b e => by rw [sC c a b, fA c b e]) hrs h1 h2 h3 h4 h5 h6
    have hArun : f_Dm_enter wA = if sv = 0 then (f_Dm_enter_83 ws) else (bnd (f_Dm_renew ws 0 3) fun v21 => if v21.2 = 0 then (f_Dm_enter_83 v21.1) else (bnd (f_Bo_empty v21.1 94) fun v26 => some (v26, 0, wr ((v26 14 4) - 1)))) := by
      rw [hA0, if_pos (by omega), happ, bnd_s, s1, bnd_s]
    have hBrun : f_Re_enter wB = if sv = 0 then (f_Re_enter_100 us) else (bnd (f_Re_buildAll us ) fun v21 => if v21.2 = 0 then (f_Re_enter_100 v21.1) else (bnd (f_Re_emptyDraft v21.1 ) fun v26 => some (v26, wr ((v26 1 14) - 1)))) := by
      rw [hB0, if_neg (by omega)]
      unfold f_Re_enter_50
      rw [refused_n, bnd_s]
      show (if (if (0 : Int) = 0 then (0 : Int) else 1) = 0 then (bnd (f_Re_copyDraft (up wB 1 0 0) ((up wB 1 0 0) 1 14)) _) else _) = _
      rw [if_pos (if_pos rfl), ← hu0, u14, b1, bnd_s, uc14, gd_t ⟨by omega, by omega⟩, bl_s, Int.toNat_natCast]
      have : up uc 13 m 0 1 14 = (m : Int) := by simp [up, uc14]
      rw [this, em1, bl_s, ← hu1, s2, bnd_s]
    have fin : ∀ wf uf : World, f_Dm_enter wA = some (wf, 3, 0) → f_Re_enter wB = some (up uf 1 0 2, 0) → II wf (up uf 1 0 2) → ∃ (oA : World × Nat × Int) (oB : World × Int), f_Dm_enter wA = some oA ∧ f_Re_enter wB = some oB ∧ f_Re_thrown oB.1 = some (hmL 0 1 2 oA.2.1) ∧ (oA.2.1 = 0 ∨ oA.2.1 = 2 ∨ oA.2.1 = 3) ∧ (oA.2.1 = 0 → oA.2.2 = oB.2) ∧ II oA.1 oB.1 := fun wf uf h1 h2 h3 =>
      ⟨(wf, 3, 0), (up uf 1 0 2, 0), h1, h2, thrown_n, Or.inr (Or.inr rfl), fun e => n30 e, h3⟩
    by_cases qv : sv = 0
    · obtain ⟨wf, uf, t1, t2, t3⟩ := back ws us (LowR_fr s3 s4 hR1) ⟨fun _ _ => rfl, fun _ _ _ _ _ => rfl, fun _ _ _ => rfl, fun _ _ => rfl⟩ hVs hVBs ws4 us14
      exact fin wf uf (by rw [hArun, if_pos qv, t1]) (by rw [hBrun, if_pos qv, t2]) t3
    · have hsv1 : sv = 1 := by
        rcases s5.2 with ⟨z, -⟩ | ⟨z, -⟩
        · exact z
        · exact absurd z qv
      have hL1 := s6 hsv1
      obtain ⟨w', v, u', p1, p2, p3, p4, p5, p6, p7⟩ := both_new (a := 0) (b := 3) hL1 hrs hVs hVBs (by omega) (by omega) (fun h h4 hn => absurd ⟨by omega, by omega⟩ hn)
      have p1 : f_Dm_renew ws 0 3 = some (w', v) := p1
      have w'4 : w' 14 4 = ((m + 1 : Nat) : Int) := by rw [p6 14 (by omega)]; exact ws4
      have u'14 : u' 1 14 = ((m + 1 : Nat) : Int) := by rw [p3.f (by omega) (by omega)]; exact us14
      rcases p7 with ⟨hv1, g', hInv⟩ | ⟨hv0, hF1⟩
      · refine ⟨(empW w' 94, 0, (m : Int)), (up (up u' 16 18 0) 14 18 (-1), (m : Int)), ?_, ?_, ?_, Or.inl rfl, fun _ => rfl, nF, m + 1, d, now, top1, L1, g', Inv_nil hInv⟩
        · rw [hArun, if_neg qv, p1, bnd_s]
          show (if v = 0 then _ else (bnd (f_Bo_empty w' 94) fun v26 => some (v26, 0, wr ((v26 14 4) - 1)))) = _
          have : empW w' 94 14 4 = ((m + 1 : Nat) : Int) := by rw [empW_far (by omega)]; exact w'4
          rw [hv1, if_neg z10, empty_n, bnd_s, this, em2]
        · rw [hBrun, if_neg qv, p2, bnd_s]
          show (if v = 0 then _ else (bnd (f_Re_emptyDraft u') fun v26 => some (v26, wr ((v26 1 14) - 1)))) = _
          have : up (up u' 16 18 0) 14 18 (-1) 1 14 = ((m + 1 : Nat) : Int) := by simp [up, u'14]
          unfold f_Re_emptyDraft
          rw [hv1, if_neg z10, bl_s, bl_s, bnd_s, this, em2]
        · unfold f_Re_thrown
          have : up (up u' 16 18 0) 14 18 (-1) 1 0 = 0 := by
            have : u' 1 0 = 0 := by rw [p3.f (by omega) (by omega), s4 1 (by omega)]; exact fB10
            simp [up, this]
          show some (up (up u' 16 18 0) 14 18 (-1) 1 0) = _
          rw [this]
          rfl
      · have hLw : Low nF (m + 1) d now top1 L1 w' u' := Low_congr (fun c hc => p6 c (by omega)) (fun c h1 h2 => p3.cell (by omega) (by omega)) (fun k hk => p3.f (by omega) (by omega)) hL1
        obtain ⟨wf, uf, t1, t2, t3⟩ := back w' u' hLw.R hF1 p5 p4 w'4 u'14
        refine fin wf uf ?_ ?_ t3
        · rw [hArun, if_neg qv, p1, bnd_s]
          show (if v = 0 then f_Dm_enter_83 w' else _) = _
          rw [hv0, if_pos rfl, t1]
        · rw [hBrun, if_neg qv, p2, bnd_s]
          show (if v = 0 then f_Re_enter_100 u' else _) = _
          rw [hv0, if_pos rfl, t2]
  · have hs0 : sv = 0 := by
      rcases hsv2 with ⟨-, z⟩ | ⟨z, -⟩
      · exact absurd z qs
      · exact z
    have hb0 : bv = 0 := by
      rcases hbv2 with ⟨-, z1, z2⟩ | ⟨z, -⟩
      · exact absurd ⟨e3.safeL.mpr z1, hRE.symm.safeH (z2 (by decide))⟩ qs
      · exact z
    subst hs0
    subst hb0
    refine no_v (e := 2) (x := 1) (fun e => e = 0 ∨ e = 2 ∨ e = 3) hII (by decide) ?_ ?_ rfl (Or.inr (Or.inl rfl))
    · unfold f_Dm_enter
      rw [if_neg n1, hsv, bnd_s, if_pos rfl]
    · unfold f_Re_enter
      rw [e5, if_neg n1, hbv, bnd_s, if_pos rfl, h25]
