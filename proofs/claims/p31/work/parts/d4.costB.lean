/-! THE REFERENCE: costs, of an assignment; a cost is lowered -/
def FrK (w w' : World) : Prop := ∀ c k, c ≠ 23 → c ≠ 24 → c ≠ 25 → c ≠ 26 → ¬ (c = 1 ∧ (k = 29 ∨ k = 30)) → w' c k = w c k
theorem FrK.refl {w : World} : FrK w w := fun _ _ _ _ _ _ _ => rfl
theorem FrK.trans {w w' w'' : World} (h : FrK w w') (h' : FrK w' w'') : FrK w w'' := fun c k a b d e f => (h' c k a b d e f).trans (h c k a b d e f)
theorem FrK.cell {w w' : World} (h : FrK w w') {c : Nat} (h1 : c ≠ 1) (h2 : c < 23 ∨ 26 < c) : w' c = w c := funext (fun k => h c k (by omega) (by omega) (by omega) (by omega) (fun z => h1 z.1))
theorem FrK.f {w w' : World} (h : FrK w w') {k : Nat} (h1 : k ≠ 29) (h2 : k ≠ 30) : w' 1 k = w 1 k := h 1 k (by decide) (by decide) (by decide) (by decide) (fun z => z.2.elim h1 h2)
theorem FrQ.k {w w' : World} (h : FrQ w w') : FrK w w' := fun c k a b d _ f => h c k a b d f
theorem FrK.u26 {w : World} {s : Nat} {v : Int} : FrK w (up w 26 s v) := fun c k _ _ _ e _ => by
  unfold up
  rw [if_neg (fun z => e z.1)]
theorem FrK.SA {w w' : World} (h : FrK w w') : SA w' = SA w := SA_c5 (fun c h1 h2 => h.cell (by omega) (by omega))
theorem FrK.R {w w' : World} (h : FrK w w') (ru : Nat) : RBB w' ru = RBB w ru := RBB_congr (fun c h1 h2 => h.cell (by omega) (by omega)) ru
def K26 (u : World) (n : Nat) (κ : Nat → Nat) : Prop := ∀ s, s < n → u 26 s = (κ s : Int)
theorem costOfB_n {w u : World} {ru M n : Nat} {ρ c κ : Nat → Nat} {vs : Nat → Int} (hF : FrK w u) (hRu : RuBL w ru) (hB : BMod w M n ρ c) (hn : n ≤ 48) (hVC : VCs w n ρ c) (hM : w 1 1 = (M : Int)) (hvs : vB u = vs) (hV : VV vs) (hbd : ∀ p, p < (RBB w ru).ln → BdP (RBB w ru) vs p) (hsat : ∀ p, p < (RBB w ru).ln → (RBB w ru).fm p = 0 → AM n ρ c ((RBB w ru).sj p) (tc (sg vs) ((RBB w ru).tm p))) (hκ : K26 u n κ) (hκ6 : ∀ s, s < n → κ s ≤ 1000000) : f_Re_costOf u (ru : Int) = some ((1 + sumH (Ck n ρ c κ) (RBB w ru) (sg vs) : Nat) : Int) := by
  obtain ⟨hru, hT, h16, hWf⟩ := hRu
  obtain ⟨hw5, hwfm, hwat, hwc, hwtm⟩ := id hWf
  obtain ⟨R, hR⟩ : ∃ R, R = RBB w ru := ⟨_, rfl⟩
  obtain ⟨F, hFd⟩ : ∃ F : Nat → Nat, F = fun p => if R.fm p = 0 then Ck n ρ c κ (R.sj p) (tc (sg vs) (R.tm p)) else 0 := ⟨_, rfl⟩
  have hsum : sumH (Ck n ρ c κ) R (sg vs) = sumN F R.ln := by rw [hFd]; rfl
  rw [← hR] at hbd hsat h16 hw5 hwfm hwat hwtm ⊢
  have e3 : u 3 = w 3 := hF.cell (by omega) (by omega)
  have e16 : u 16 ru = (R.ln : Int) := by rw [hF.cell (by omega) (by omega)]; exact h16
  have e17 : ∀ p, u 17 (5 * ru + p) = R.fm p := fun p => by rw [hF.cell (by omega) (by omega), hR]; rfl
  have e18 : ∀ p, u 18 (5 * ru + p) = R.sj p := fun p => by rw [hF.cell (by omega) (by omega), hR]; rfl
  have e19 : ∀ p j, u 19 (3 * (5 * ru + p) + j) = R.tm p j := fun p j => by rw [hF.cell (by omega) (by omega), hR]; rfl
  have e11 : u 1 1 = (M : Int) := by rw [hF.f (by decide) (by decide)]; exact hM
  have hTu : WfT u := WfT_congr (fun c a b => hF.cell (by omega) (by omega)) hT
  have hBu : BMod u M n ρ c := BMod_congr (fun k hk => hF.cell (by omega) (by omega)) hB
  have hVu : VCs u n ρ c := VCs_3 e3 hVC
  have hF6 : ∀ p, p < R.ln → F p ≤ 1000000 := fun p hp => by
    rw [hFd]
    show (if R.fm p = 0 then Ck n ρ c κ (R.sj p) (tc (sg vs) (R.tm p)) else 0) ≤ _
    by_cases f0 : R.fm p = 0
    · rw [if_pos f0]
      obtain ⟨s, hs, hρ, hc⟩ := hsat p hp f0
      rw [← hρ, ← hc]
      show κ (slt n ρ c (ρ s : Int) (c s)) ≤ _
      rw [slt_n (SuQ_B hB) hs]
      exact hκ6 s hs
    · rw [if_neg f0]
      omega
  have hsb : ∀ p, p ≤ R.ln → sumN F p ≤ 1000000 * p := fun p => by
    induction p with
    | zero => intro _; exact Nat.le_refl _
    | succ p ih =>
      intro hp
      have h1 := ih (by omega)
      have h2 := hF6 p (by omega)
      show sumN F p + F p ≤ _
      omega
  have i5 : wr (5 * (ru : Int)) = ((5 * ru : Nat) : Int) := by rw [wr_of (x := 5 * (ru : Int)) ⟨by omega, by omega⟩]; omega
  have iE : wr ((wr (5 * (ru : Int))) + (R.ln : Int)) = ((5 * ru + R.ln : Nat) : Int) := by
    rw [i5, wr_of (x := ((5 * ru : Nat) : Int) + (R.ln : Int)) ⟨by omega, by omega⟩]
    omega
  have loop : ∀ (j p : Nat), p + j = R.ln → f_Re_costOf_6 u (ru : Int) ((1 + sumN F p : Nat) : Int) ((5 * ru + p : Nat) : Int) = some ((1 + sumN F R.ln : Nat) : Int) := by
    intro j
    induction j with
    | zero =>
      intro p hp
      have e : p = R.ln := by omega
      rw [e]
      unfold f_Re_costOf_6
      refine lp_out ?_
      show f_Re_costOf_6B u (ru : Int) ((1 + sumN F R.ln : Nat) : Int) ((5 * ru + R.ln : Nat) : Int) = _
      unfold f_Re_costOf_6B
      rw [gd_t ⟨by omega, by omega⟩, Int.toNat_natCast, e16, iE, if_pos (Int.le_refl _)]
    | succ j ih =>
      intro p hp
      have hpl : p < R.ln := by omega
      have hb := hsb p (by omega)
      have hfp := hF6 p hpl
      have hn1 : 1 + sumN F (p + 1) = 1 + sumN F p + F p := by show 1 + (sumN F p + F p) = _; omega
      rw [← ih (p + 1) (by omega)]
      unfold f_Re_costOf_6
      refine lp_step (F := fun z : (Int × Int) => f_Re_costOf_6B u (ru : Int) z.1 z.2) (s := (((1 + sumN F p : Nat) : Int), ((5 * ru + p : Nat) : Int))) ?_
      show f_Re_costOf_6B u (ru : Int) ((1 + sumN F p : Nat) : Int) ((5 * ru + p : Nat) : Int) = some (Sum.inl (((1 + sumN F (p + 1) : Nat) : Int), ((5 * ru + (p + 1) : Nat) : Int)))
      have e141 : ∀ y : Int, f_Re_costOf_141 u (ru : Int) y ((5 * ru + p : Nat) : Int) = some (Sum.inl (y, ((5 * ru + (p + 1) : Nat) : Int))) := fun y => by
        unfold f_Re_costOf_141
        rw [bl_s, wr_of (x := ((5 * ru + p : Nat) : Int) + 1) ⟨by omega, by omega⟩]
        rfl
      by_cases f0 : R.fm p = 0
      · obtain ⟨hc1, hc0⟩ := hwat p hpl (by omega)
        obtain ⟨r, hr, hr10, hr3, hco⟩ := SA_co_in hc1
        obtain ⟨s, hs, hρ, hcs⟩ := hsat p hpl f0
        have hFp : F p = κ s := by
          rw [hFd]
          show (if R.fm p = 0 then Ck n ρ c κ (R.sj p) (tc (sg vs) (R.tm p)) else 0) = _
          rw [if_pos f0, ← hρ, ← hcs]
          show κ (slt n ρ c (ρ s : Int) (c s)) = _
          rw [slt_n (SuQ_B hB) hs]
        obtain ⟨k, hk⟩ : ∃ k, k = tc (sg vs) (R.tm p) := ⟨_, rfl⟩
        have hval : ∀ j, j < 3 → f_Re_valueOf u (R.tm p j) = some ((clm k j : Nat) : Int) := fun j hj => by
          have h1 := hbd p hpl j hj
          rw [valueOf_b (hwtm p j hpl hj) (by rw [hvs]; omega), hvs, hk, tc_clm (sg_VA hV) (fun c hc => (hwtm p c hpl hc).2) hj, tv_sg]
          congr 1
          omega
        have hz : ∀ j : Nat, j < 3 → w 3 r ≤ (j : Int) → ((clm k j : Nat) : Int) = 0 := fun j hj hle => by
          have h1 := hc0 j (by rw [hco]; omega) hj
          rw [hk, tc_clm (sg_VA hV) (fun c hc => (hwtm p c hpl hc).2) hj, h1]
          rfl
        have j0 : wr (3 * ((5 * ru + p : Nat) : Int)) = ((3 * (5 * ru + p) + 0 : Nat) : Int) := by
          rw [wr_of (x := 3 * ((5 * ru + p : Nat) : Int)) ⟨by omega, by omega⟩]; omega
        have j1 : wr (((3 * (5 * ru + p) + 0 : Nat) : Int) + 1) = ((3 * (5 * ru + p) + 1 : Nat) : Int) := by
          rw [wr_of (x := ((3 * (5 * ru + p) + 0 : Nat) : Int) + 1) ⟨by omega, by omega⟩]; omega
        have j2 : wr (((3 * (5 * ru + p) + 0 : Nat) : Int) + 2) = ((3 * (5 * ru + p) + 2 : Nat) : Int) := by
          rw [wr_of (x := ((3 * (5 * ru + p) + 0 : Nat) : Int) + 2) ⟨by omega, by omega⟩]; omega
        have hk2 : k < 2097152 := by rw [hk]; exact tc_lt (sg_VA hV) (fun c hc => (hwtm p c hpl hc).2)
        have hρr : ρ s = r := by omega
        have hck : c s = k := by rw [hk]; exact hcs
        have hVk : Vc u r k := by have := hVu s hs; rw [hρr, hck] at this; exact this
        obtain ⟨v, hv, hv2⟩ := placeB_eq (k := k) (m := k) hTu hBu hVu hr10 (by rw [e3]; exact hr3) hk2 hVk hs hρr (by rw [hck])
        have hvs' := hv2.mpr rfl
        have h111 : ∀ z : Int, z = ((clm k 2 : Nat) : Int) → f_Re_costOf_111 u (ru : Int) ((1 + sumN F p : Nat) : Int) ((5 * ru + p : Nat) : Int) ((clm k 0 : Nat) : Int) ((clm k 1 : Nat) : Int) z = some (Sum.inl (((1 + sumN F (p + 1) : Nat) : Int), ((5 * ru + (p + 1) : Nat) : Int))) := fun z hz => by
          rw [hz]
          unfold f_Re_costOf_111
          rw [gd_t ⟨by omega, by omega⟩, Int.toNat_natCast, e11, e18, hr, hv, bnd_s, hvs', gd_t ⟨by omega, by omega⟩, Int.toNat_natCast, hκ s hs, bl_s, wr_of (x := ((1 + sumN F p : Nat) : Int) + (κ s : Int)) ⟨by omega, by omega⟩, e141, hn1, hFp]
          congr 3
        have h76 : ∀ z : Int, z = ((clm k 1 : Nat) : Int) → f_Re_costOf_76 u (ru : Int) ((1 + sumN F p : Nat) : Int) ((5 * ru + p : Nat) : Int) ((clm k 0 : Nat) : Int) z = some (Sum.inl (((1 + sumN F (p + 1) : Nat) : Int), ((5 * ru + (p + 1) : Nat) : Int))) := fun z hzz => by
          rw [hzz]
          unfold f_Re_costOf_76
          rw [gd_t ⟨by omega, by omega⟩, Int.toNat_natCast, e18, hr, gd_t ⟨by omega, by omega⟩, Int.toNat_natCast, e3]
          by_cases q : w 3 r ≤ 2
          · rw [if_pos q]
            exact h111 0 (hz 2 (by omega) q).symm
          · rw [if_neg q, j0, j2, gd_t ⟨by omega, by omega⟩, Int.toNat_natCast, e19, hval 2 (by omega), bnd_s]
            exact h111 _ rfl
        unfold f_Re_costOf_6B
        rw [gd_t ⟨by omega, by omega⟩, Int.toNat_natCast, e16, iE, if_neg (by omega), gd_t ⟨by omega, by omega⟩, Int.toNat_natCast, e17, if_pos f0, j0, gd_t ⟨by omega, by omega⟩, Int.toNat_natCast, e19, hval 0 (by omega), bnd_s, gd_t ⟨by omega, by omega⟩, e18, hr, gd_t ⟨by omega, by omega⟩, Int.toNat_natCast, e3]
        by_cases q : w 3 r ≤ 1
        · rw [if_pos q]
          exact h76 0 (hz 1 (by omega) q).symm
        · rw [if_neg q, j1, gd_t ⟨by omega, by omega⟩, Int.toNat_natCast, e19, hval 1 (by omega), bnd_s]
          exact h76 _ rfl
      · have hFp : F p = 0 := by
          rw [hFd]
          show (if R.fm p = 0 then Ck n ρ c κ (R.sj p) (tc (sg vs) (R.tm p)) else 0) = _
          rw [if_neg f0]
        unfold f_Re_costOf_6B
        rw [gd_t ⟨by omega, by omega⟩, Int.toNat_natCast, e16, iE, if_neg (by omega), gd_t ⟨by omega, by omega⟩, Int.toNat_natCast, e17, if_neg f0, e141, hn1, hFp]
        rfl
  have := loop R.ln 0 (by omega)
  rw [hsum, ← this]
  unfold f_Re_costOf
  rw [bl_s, i5]
  rfl
theorem lowerB_n {u : World} {n s v : Nat} {κ : Nat → Nat} (hκ : K26 u n κ) (hs : s < n) (hn : n ≤ 48) : f_Re_lower u (s : Int) (v : Int) = if κ s ≤ v then some (u, 0) else some (up u 26 s (v : Int), 1) := by
  have h0 : up u 26 s (u 26 s) = u := by
    funext c k
    unfold up
    by_cases q : c = 26 ∧ k = s
    · rw [if_pos q, q.1, q.2]
    · rw [if_neg q]
  have ha : f_Re_lower_35 u 0 (s : Int) (u 26 s) = some (u, 0) := by
    unfold f_Re_lower_35
    rw [gd_t ⟨by omega, by omega⟩, bl_s, gd_t (Or.inl rfl), Int.toNat_natCast, h0]
  have hb : f_Re_lower_35 u 1 (s : Int) (v : Int) = some (up u 26 s (v : Int), 1) := by
    unfold f_Re_lower_35
    rw [gd_t ⟨by omega, by omega⟩, bl_s, gd_t (Or.inr rfl), Int.toNat_natCast]
  have hk := hκ s hs
  unfold f_Re_lower f_Re_lower_15
  rw [gd_t ⟨by omega, by omega⟩, Int.toNat_natCast]
  by_cases q : κ s ≤ v
  · rw [if_pos q, if_pos (by omega), if_pos rfl, gd_t ⟨by omega, by omega⟩, ha]
  · rw [if_neg q, if_neg (by omega), if_neg z10, hb]
theorem K26_low {u : World} {n s v : Nat} {κ : Nat → Nat} (hκ : K26 u n κ) : K26 (up u 26 s (v : Int)) n (upn κ s v) := fun x hx => by
  unfold up upn
  by_cases q : x = s
  · rw [if_pos ⟨rfl, q⟩, if_pos q]
  · rw [if_neg (fun z => q z.2), if_neg q]
    exact hκ x hx
/-- a step down -/
def Dwn (n : Nat) (κ κ' : Nat → Nat) : Prop := ∀ s, s < n → κ' s ≤ κ s
theorem Dwn.refl {n : Nat} {κ : Nat → Nat} : Dwn n κ κ := fun _ _ => Nat.le_refl _
theorem Dwn.trans {n : Nat} {κ κ' κ'' : Nat → Nat} (h : Dwn n κ κ') (h' : Dwn n κ' κ'') : Dwn n κ κ'' := fun s hs => Nat.le_trans (h' s hs) (h s hs)
theorem Ck_le {n : Nat} {ρ c κ κ' : Nat → Nat} {R : RU} {σ : Nat → Nat} (hu : SuQ n ρ c) (hS : Sat (AM n ρ c) R σ) (h : Dwn n κ κ') : sumH (Ck n ρ c κ') R σ ≤ sumH (Ck n ρ c κ) R σ := sumH_le hS (fun p hp hf hM => by
  obtain ⟨s, hs, hρ, hc⟩ := hM
  rw [← hρ, ← hc]
  show κ' (slt n ρ c (ρ s : Int) (c s)) ≤ κ (slt n ρ c (ρ s : Int) (c s))
  rw [slt_n hu hs]
  exact h s hs)
theorem Ck_ge {n : Nat} {ρ c κ : Nat → Nat} {C : Int → Nat → Nat} {R : RU} {σ : Nat → Nat} (hu : SuQ n ρ c) (hS : Sat (AM n ρ c) R σ) (h : ∀ s, s < n → C (ρ s : Int) (c s) ≤ κ s) : sumH C R σ ≤ sumH (Ck n ρ c κ) R σ := sumH_le hS (fun p hp hf hM => by
  obtain ⟨s, hs, hρ, hc⟩ := hM
  rw [← hρ, ← hc]
  show _ ≤ κ (slt n ρ c (ρ s : Int) (c s))
  rw [slt_n hu hs]
  exact h s hs)
/-- a cost lowered by an assignment stays no less than the least -/
theorem OnW_low {D : SH} {FC : Int → Nat → Nat → Prop} {RR : RU → Prop} {n s : Nat} {ρ c κ : Nat → Nat} {C : Int → Nat → Nat} {R : RU} {σ : Nat → Nat} (hu : SuQ n ρ c) (hC : CostP D FC RR (AM n ρ c) C) (hk : OnW D FC n ρ c C κ) (hR : RR R) (hS : Sat (AM n ρ c) R σ) (hs : s < n) (hρ : (ρ s : Int) = R.tg) (hz : kz (D.kq R.tg) (c s) = kz (D.kq R.tg) (tc σ R.ht)) (hlt : 1 + sumH (Ck n ρ c κ) R σ < κ s) : OnW D FC n ρ c C (upn κ s (1 + sumH (Ck n ρ c κ) R σ)) := fun x hx => by
  obtain ⟨k1, k2, k3⟩ := hk x hx
  by_cases q : x = s
  · rw [q] at k1 k2 k3 ⊢
    rw [upn_eq]
    refine ⟨?_, by omega, fun k v h1 h2 => by have := k3 k v h1 h2; omega⟩
    have h1 := hC.2.2.1 R σ (c s) hR hS ⟨s, hs, hρ, rfl⟩ hz
    have h2 := Ck_ge (C := C) hu hS (fun s hs => (hk s hs).1)
    rw [hρ]
    omega
  · rw [upn_ne q]
    exact ⟨k1, k2, k3⟩
theorem Dwn_low {n s v : Nat} {κ : Nat → Nat} (h : v < κ s) : Dwn n κ (upn κ s v) := fun x _ => by
  by_cases q : x = s
  · rw [q, upn_eq]; omega
  · rw [upn_ne q]; exact Nat.le_refl _
