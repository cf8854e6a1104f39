/-! THE REFERENCE'S MODELS: take -/
def FrB (M : Nat) (w w' : World) : Prop := (∀ c0, c0 ≠ 20 → c0 ≠ 21 → c0 ≠ 22 → w' c0 = w c0) ∧ (∀ k, k ≠ M → w' 20 k = w 20 k) ∧ (∀ k, ¬ (50 * M ≤ k ∧ k < 50 * M + 50) → w' 21 k = w 21 k) ∧ ∀ k, ¬ (150 * M ≤ k ∧ k < 150 * M + 150) → w' 22 k = w 22 k
theorem FrB.refl {M : Nat} {w : World} : FrB M w w := ⟨fun _ _ _ _ => rfl, fun _ _ => rfl, fun _ _ => rfl, fun _ _ => rfl⟩
theorem FrB.trans {M : Nat} {w w' w'' : World} (h : FrB M w w') (h' : FrB M w' w'') : FrB M w w'' := ⟨fun c a b d => (h'.1 c a b d).trans (h.1 c a b d), fun k a => (h'.2.1 k a).trans (h.2.1 k a), fun k a => (h'.2.2.1 k a).trans (h.2.2.1 k a), fun k a => (h'.2.2.2 k a).trans (h.2.2.2 k a)⟩
/-- what a tuple taken in does -/
def TakeB (w : World) (n : Nat) (ρ c : Nat → Nat) (r m : Nat) (ch : Int) (n' : Nat) (ρ' c' : Nat → Nat) : Prop :=
  (∃ x, x < n ∧ ρ x = r ∧ kz ((SA w).kq r) (c x) = kz ((SA w).kq r) m ∧ n' = n ∧ ρ' = ρ ∧ c' = upn c x (jn ((SA w).ki r) (c x) m) ∧ ((ch = 0 ∧ jn ((SA w).ki r) (c x) m = c x) ∨ (ch = 1 ∧ jn ((SA w).ki r) (c x) m ≠ c x))) ∨
  ((∀ x, x < n → ρ x = r → kz ((SA w).kq r) (c x) ≠ kz ((SA w).kq r) m) ∧ n' = n + 1 ∧ ρ' = upn ρ n r ∧ c' = upn c n m ∧ ch = 1)
theorem takeB_old {w : World} {M n r m s : Nat} {ρ c : Nat → Nat} (hS : WfT w) (h : BMod w M n ρ c) (hV : VCs w n ρ c) (hr : r < 10) (hd : 1 ≤ w 3 r) (hm : m < 2097152) (hVm : Vc w r m) (hs : s < n) (hρ : ρ s = r) (hz : kz ((SA w).kq (r : Int)) (c s) = kz ((SA w).kq (r : Int)) m) (hp : f_Re_place w (M : Int) (r : Int) ((clm m 0 : Nat) : Int) ((clm m 1 : Nat) : Int) ((clm m 2 : Nat) : Int) = some (s : Int)) :
    ∃ w' ch, f_Re_take w (M : Int) (r : Int) ((clm m 0 : Nat) : Int) ((clm m 1 : Nat) : Int) ((clm m 2 : Nat) : Int) = some (w', ch) ∧ FrB M w w' ∧ BMod w' M n ρ (upn c s (jn ((SA w).ki r) (c s) m)) ∧ ((ch = 0 ∧ jn ((SA w).ki r) (c s) m = c s) ∨ (ch = 1 ∧ jn ((SA w).ki r) (c s) m ≠ c s)) := by
  obtain ⟨hM, hn, h49, hsl, hkey⟩ := id h
  obtain ⟨a1, a2, a3, a4, a5⟩ := hsl s hs
  have h3 := (hS r hr).1
  have hk := (hS r hr).2.1
  have hVs : Vc w r (c s) := by rw [← hρ]; exact hV s hs
  have hke := (KE_kz (s := s) hS hr hd a4 hm hVs hVm).mpr hz
  obtain ⟨co, hco, hcoI⟩ : ∃ co : Nat, (co = 1 ∨ co = 2 ∨ co = 3) ∧ w 3 r = (co : Int) := ⟨(w 3 r).toNat, by omega, by omega⟩
  have hoth : ∀ j, j < 3 → j ≠ co - 1 → clm (c s) j = clm m j := fun j hj hne => by
    by_cases q : j < co - 1
    · have hmn : j < mny w r := by unfold mny; split <;> omega
      have hj := hke j hmn
      have : j = 0 ∨ j = 1 := by omega
      rcases this with rfl | rfl
      · have hj : ((clm (c s) 0 : Nat) : Int) = ((clm m 0 : Nat) : Int) := hj
        omega
      · have hj : ((clm (c s) 1 : Nat) : Int) = ((clm m 1 : Nat) : Int) := hj
        omega
    · rw [hVs j (by omega) hj, hVm j (by omega) hj]
  obtain ⟨J, hJ⟩ : ∃ J, J = jn ((SA w).ki r) (c s) m := ⟨_, rfl⟩
  have hJl : J < 2097152 := by rw [hJ]; exact jn_lt a4 hm
  have hjc : ∀ j, j < 3 → clm J j = if j = co - 1 then mg ((SA w).ki r) (clm (c s) j) (clm m j) else clm (c s) j := fun j hj => by rw [hJ]; exact jn_clm hco a4 hm hoth hj
  have hlast := hjc (co - 1) (by omega)
  rw [if_pos rfl, SA_ki hr] at hlast
  -- the cell
  obtain ⟨ix, hix⟩ : ∃ ix, ix = 3 * (50 * M + s) + (co - 1) := ⟨_, rfl⟩
  have hold : w 22 ix = ((clm (c s) (co - 1) : Nat) : Int) := by rw [hix]; exact a3 (co - 1) (by omega)
  have hwr : wr ((wr ((wr (3 * (wr ((wr (50 * (M : Int))) + (s : Int))))) + w 3 r)) - 1) = (ix : Int) := by
    rw [hcoI, wr_of (x := 50 * (M : Int)) ⟨by omega, by omega⟩, wr_of (x := 50 * (M : Int) + (s : Int)) ⟨by omega, by omega⟩, wr_of (x := 3 * (50 * (M : Int) + (s : Int))) ⟨by omega, by omega⟩, wr_of (x := 3 * (50 * (M : Int) + (s : Int)) + (co : Int)) ⟨by omega, by omega⟩, wr_of (x := 3 * (50 * (M : Int) + (s : Int)) + (co : Int) - 1) ⟨by omega, by omega⟩]
    omega
  have hcl := clm_lt (n := c s) (j := co - 1)
  have hcm := clm_lt (n := m) (j := co - 1)
  have iff1 : clm J (co - 1) = clm (c s) (co - 1) ↔ J = c s := by
    constructor
    · intro e
      have e' : ∀ j, j < 3 → clm J j = clm (c s) j := fun j hj => by
        by_cases q : j = co - 1
        · rw [q]; exact e
        · rw [hjc j hj, if_neg q]
      have q1 := clm_pk hJl
      have q2 := clm_pk a4
      rw [← q1, ← q2, e' 0 (by omega), e' 1 (by omega), e' 2 (by omega)]
    · intro e
      rw [e]
  have hmod : BMod (up w 22 ix ((clm J (co - 1) : Nat) : Int)) M n ρ (upn c s J) := by
    have f : ∀ c0, c0 ≠ 22 → up w 22 ix ((clm J (co - 1) : Nat) : Int) c0 = w c0 := fun c0 hc => by funext k; simp [up, hc]
    have hSA : SA (up w 22 ix ((clm J (co - 1) : Nat) : Int)) = SA w := SA_congr (fun c a b k => by rw [f c (by omega)])
    refine ⟨hM, by rw [f 20 (by omega)]; exact hn, h49, fun x hx => ?_, fun x y hx hy hxy hρxy => ?_⟩
    · obtain ⟨b1, b2, b3, b4, b5⟩ := hsl x hx
      refine ⟨b1, by rw [f 21 (by omega)]; exact b2, fun j hj => ?_, ?_, by rw [f 3 (by omega)]; exact b5⟩
      · show (if 22 = 22 ∧ 3 * (50 * M + x) + j = ix then ((clm J (co - 1) : Nat) : Int) else w 22 (3 * (50 * M + x) + j)) = _
        by_cases e : x = s
        · subst e
          rw [upn_eq, hjc j hj]
          by_cases q : j = co - 1
          · subst q
            rw [if_pos ⟨rfl, hix.symm⟩, if_pos rfl, hjc (co - 1) hj, if_pos rfl]
          · rw [if_neg (fun z => q (by omega)), if_neg q]
            exact b3 j hj
        · rw [upn_ne e, if_neg (fun z => e (by omega))]
          exact b3 j hj
      · by_cases e : x = s
        · rw [e, upn_eq]; exact hJl
        · rw [upn_ne e]; exact b4
    · rw [hSA]
      have kk : ∀ y, y < n → kz ((SA w).kq (ρ y : Int)) (upn c s J y) = kz ((SA w).kq (ρ y : Int)) (c y) := fun y hy => by
        by_cases e : y = s
        · subst e
          rw [upn_eq, hJ, hρ]
          exact jn_kz ((kq_lt hS.D)) a4 hm hz
        · rw [upn_ne e]
      have k2 := kk y hy
      rw [← hρxy] at k2
      rw [kk x hx, k2]
      exact hkey x y hx hy hxy hρxy
  have hfr : FrB M w (up w 22 ix ((clm J (co - 1) : Nat) : Int)) := by
    refine ⟨fun c0 _ _ h2 => by funext k; simp [up, h2], fun k _ => by simp [up], fun k _ => by simp [up], fun k hk => ?_⟩
    show (if 22 = 22 ∧ k = ix then _ else w 22 k) = _
    rw [if_neg (fun z => hk (by omega))]
  -- the call
  have h123 : ∀ v : Int, f_Re_take_104 w (ix : Int) ((clm J (co - 1) : Nat) : Int) = some (up w 22 ix ((clm J (co - 1) : Nat) : Int), if ((clm J (co - 1) : Nat) : Int) = w 22 ix then 0 else 1) := fun _ => by
    unfold f_Re_take_104 f_Re_take_123
    rw [gd_t ⟨by omega, by omega⟩, Int.toNat_natCast]
    split
    · rw [gd_t ⟨by omega, by omega⟩, bl_s, gd_t (Or.inl rfl)]
    · rw [gd_t ⟨by omega, by omega⟩, bl_s, gd_t (Or.inr rfl)]
  have h70 : f_Re_take_70 w (r : Int) (ix : Int) ((clm m (co - 1) : Nat) : Int) = some (up w 22 ix ((clm J (co - 1) : Nat) : Int), if ((clm J (co - 1) : Nat) : Int) = w 22 ix then 0 else 1) := by
    unfold f_Re_take_70
    rw [gd_t ⟨by omega, by omega⟩, Int.toNat_natCast]
    by_cases h4 : w 4 r = 0
    · rw [if_pos h4]
      have hcm' : c s = m := by
        have : (SA w).kq (r : Int) = 0 := by
          unfold SH.kq
          rw [SA_ki hr, if_pos (by omega)]
        rw [this] at hz
        exact hz
      have e : clm m (co - 1) = clm J (co - 1) := by
        rw [hlast, hcm', show (w 4 r).toNat = 0 by omega]
        show _ = clm m (co - 1) ||| clm m (co - 1)
        rw [Nat.or_self]
      rw [e]
      exact h123 0
    · rw [if_neg h4, gd_t ⟨by omega, by omega⟩, gd_t ⟨by omega, by omega⟩, Int.toNat_natCast, hold, merged_i (by omega) (by omega) hk.1, bnd_s, ← hlast, h123 0]
      rw [hold]
  have hcall : f_Re_take w (M : Int) (r : Int) ((clm m 0 : Nat) : Int) ((clm m 1 : Nat) : Int) ((clm m 2 : Nat) : Int) = some (up w 22 ix ((clm J (co - 1) : Nat) : Int), if ((clm J (co - 1) : Nat) : Int) = w 22 ix then 0 else 1) := by
    unfold f_Re_take
    rw [hp, bnd_s, if_neg (by omega), gd_t ⟨by omega, by omega⟩, bl_s, Int.toNat_natCast, hwr, gd_t ⟨by omega, by omega⟩]
    rcases hco with q | q | q
    · rw [if_pos (by rw [hcoI, q]; rfl)]
      rw [q] at h70 ⊢
      exact h70
    · rw [if_neg (by rw [hcoI, q]; decide), gd_t ⟨by omega, by omega⟩, if_pos (by rw [hcoI, q]; rfl)]
      rw [q] at h70 ⊢
      exact h70
    · rw [if_neg (by rw [hcoI, q]; decide), gd_t ⟨by omega, by omega⟩, if_neg (by rw [hcoI, q]; decide)]
      rw [q] at h70 ⊢
      exact h70
  rw [← hJ]
  refine ⟨_, _, hcall, hfr, hmod, ?_⟩
  rw [hold]
  by_cases e : J = c s
  · exact Or.inl ⟨if_pos (by rw [iff1.mpr e]), e⟩
  · exact Or.inr ⟨if_neg (fun q => e (iff1.mp (by omega))), e⟩
theorem takeB_new {w : World} {M n r m : Nat} {ρ c : Nat → Nat} (h : BMod w M n ρ c) (hn48 : n ≤ 48) (hr : r < 10) (hd : 1 ≤ w 3 r) (hm : m < 2097152) (hz : ∀ x, x < n → ρ x = r → kz ((SA w).kq (r : Int)) (c x) ≠ kz ((SA w).kq (r : Int)) m) (hp : f_Re_place w (M : Int) (r : Int) ((clm m 0 : Nat) : Int) ((clm m 1 : Nat) : Int) ((clm m 2 : Nat) : Int) = some (-1)) :
    ∃ w', f_Re_take w (M : Int) (r : Int) ((clm m 0 : Nat) : Int) ((clm m 1 : Nat) : Int) ((clm m 2 : Nat) : Int) = some (w', 1) ∧ FrB M w w' ∧ BMod w' M (n + 1) (upn ρ n r) (upn c n m) := by
  obtain ⟨hM, hn, h49, hsl, hkey⟩ := id h
  obtain ⟨w1, hw1⟩ : ∃ w1, w1 = up (up (up (up (up w 21 (50 * M + n) (r : Int)) 22 (3 * (50 * M + n)) ((clm m 0 : Nat) : Int)) 22 (3 * (50 * M + n) + 1) ((clm m 1 : Nat) : Int)) 22 (3 * (50 * M + n) + 2) ((clm m 2 : Nat) : Int)) 20 M ((n : Int) + 1) := ⟨_, rfl⟩
  have f0 : ∀ c0, c0 ≠ 20 → c0 ≠ 21 → c0 ≠ 22 → w1 c0 = w c0 := fun c0 a b d => by rw [hw1]; funext k; simp [up, a, b, d]
  have f20 : ∀ k, w1 20 k = if k = M then (n : Int) + 1 else w 20 k := fun k => by rw [hw1]; simp [up]
  have f21 : ∀ k, w1 21 k = if k = 50 * M + n then (r : Int) else w 21 k := fun k => by rw [hw1]; simp [up]
  have f22 : ∀ k, w1 22 k = if k = 3 * (50 * M + n) + 2 then ((clm m 2 : Nat) : Int) else if k = 3 * (50 * M + n) + 1 then ((clm m 1 : Nat) : Int) else if k = 3 * (50 * M + n) then ((clm m 0 : Nat) : Int) else w 22 k := fun k => by rw [hw1]; simp [up]
  have hSA : SA w1 = SA w := SA_congr (fun c a b k => by rw [f0 c (by omega) (by omega) (by omega)])
  refine ⟨w1, ?_, ⟨f0, fun k hk => by rw [f20, if_neg hk], fun k hk => by rw [f21, if_neg (fun e => hk (by omega))], fun k hk => by rw [f22, if_neg (fun e => hk (by omega)), if_neg (fun e => hk (by omega)), if_neg (fun e => hk (by omega))]⟩, hM, by rw [f20, if_pos rfl]; omega, by omega, fun x hx => ?_, fun x y hx hy hxy hρ => ?_⟩
  · unfold f_Re_take
    have e0 : wr ((wr (50 * (M : Int))) + w 20 M) = ((50 * M + n : Nat) : Int) := by
      rw [hn, wr_of (x := 50 * (M : Int)) ⟨by omega, by omega⟩, wr_of (x := 50 * (M : Int) + (n : Int)) ⟨by omega, by omega⟩]
      omega
    have e3 : wr (3 * ((50 * M + n : Nat) : Int)) = ((3 * (50 * M + n) : Nat) : Int) := by
      rw [wr_of (x := 3 * ((50 * M + n : Nat) : Int)) ⟨by omega, by omega⟩]
      omega
    have e31 : wr (((3 * (50 * M + n) : Nat) : Int) + 1) = ((3 * (50 * M + n) + 1 : Nat) : Int) := by
      rw [wr_of (x := ((3 * (50 * M + n) : Nat) : Int) + 1) ⟨by omega, by omega⟩]
      omega
    have e32 : wr (((3 * (50 * M + n) : Nat) : Int) + 2) = ((3 * (50 * M + n) + 2 : Nat) : Int) := by
      rw [wr_of (x := ((3 * (50 * M + n) : Nat) : Int) + 2) ⟨by omega, by omega⟩]
      omega
    rw [hp, bnd_s, if_pos rfl, gd_t ⟨by omega, by omega⟩, bl_s, Int.toNat_natCast, e0, gd_t ⟨by omega, by omega⟩, bl_s, e3, gd_t ⟨by omega, by omega⟩, bl_s, e31, gd_t ⟨by omega, by omega⟩, bl_s, e32, gd_t ⟨by omega, by omega⟩, bl_s, gd_t ⟨by omega, by omega⟩, gd_t ⟨by omega, by omega⟩, bl_s, Int.toNat_natCast, Int.toNat_natCast, Int.toNat_natCast, Int.toNat_natCast]
    have eM : up (up (up (up w 21 (50 * M + n) (r : Int)) 22 (3 * (50 * M + n)) ((clm m 0 : Nat) : Int)) 22 (3 * (50 * M + n) + 1) ((clm m 1 : Nat) : Int)) 22 (3 * (50 * M + n) + 2) ((clm m 2 : Nat) : Int) 20 M = (n : Int) := by simp [up, hn]
    rw [eM, wr_of (x := (n : Int) + 1) ⟨by omega, by omega⟩, hw1]
  · by_cases e : x = n
    · subst e
      rw [upn_eq, upn_eq]
      refine ⟨hr, by rw [f21, if_pos rfl], fun j hj => ?_, hm, by rw [f0 3 (by omega) (by omega) (by omega)]; exact hd⟩
      rw [f22]
      have : j = 0 ∨ j = 1 ∨ j = 2 := by omega
      rcases this with rfl | rfl | rfl
      · rw [if_neg (by omega), if_neg (by omega), if_pos (by omega)]
      · rw [if_neg (by omega), if_pos rfl]
      · rw [if_pos rfl]
    · obtain ⟨b1, b2, b3, b4, b5⟩ := hsl x (by omega)
      rw [upn_ne e, upn_ne e]
      refine ⟨b1, by rw [f21, if_neg (by omega)]; exact b2, fun j hj => ?_, b4, by rw [f0 3 (by omega) (by omega) (by omega)]; exact b5⟩
      rw [f22, if_neg (by omega), if_neg (by omega), if_neg (by omega)]
      exact b3 j hj
  · rw [hSA]
    by_cases ex : x = n
    · by_cases ey : y = n
      · exact absurd (ex.trans ey.symm) hxy
      · rw [ex] at hρ ⊢
        rw [upn_eq, upn_ne ey] at hρ
        rw [upn_eq, upn_eq, upn_ne ey]
        exact fun q => hz y (by omega) hρ.symm q.symm
    · by_cases ey : y = n
      · rw [ey] at hρ ⊢
        rw [upn_eq, upn_ne ex] at hρ
        rw [upn_eq, upn_ne ex, upn_ne ex, hρ]
        exact hz x (by omega) hρ
      · rw [upn_ne ex, upn_ne ey] at hρ
        rw [upn_ne ex, upn_ne ex, upn_ne ey]
        exact hkey x y (by omega) (by omega) hxy hρ
theorem takeB_n {w : World} {M n r m : Nat} {ρ c : Nat → Nat} (hS : WfT w) (h : BMod w M n ρ c) (hV : VCs w n ρ c) (hn48 : n ≤ 48) (hr : r < 10) (hd : 1 ≤ w 3 r) (hm : m < 2097152) (hVm : Vc w r m) :
    ∃ w' ch n' ρ' c', f_Re_take w (M : Int) (r : Int) ((clm m 0 : Nat) : Int) ((clm m 1 : Nat) : Int) ((clm m 2 : Nat) : Int) = some (w', ch) ∧ FrB M w w' ∧ BMod w' M n' ρ' c' ∧ TakeB w n ρ c r m ch n' ρ' c' := by
  have kk : ∀ s, s < n → ρ s = r → (KE w c r ((clm m 0 : Nat) : Int) ((clm m 1 : Nat) : Int) ((clm m 2 : Nat) : Int) s ↔ kz ((SA w).kq (r : Int)) (c s) = kz ((SA w).kq (r : Int)) m) := fun s hs hρ => KE_kz hS hr hd (h.2.2.2.1 s hs).2.2.2.1 hm (by rw [← hρ]; exact hV s hs) hVm
  rcases place_n (x := ((clm m 0 : Nat) : Int)) (y := ((clm m 1 : Nat) : Int)) (z := ((clm m 2 : Nat) : Int)) hS h hr hd with ⟨s, hs, hρ, hke, hp⟩ | ⟨hno, hp⟩
  · have hz := (kk s hs hρ).mp hke
    obtain ⟨w', ch, e, hF, hB, hch⟩ := takeB_old hS h hV hr hd hm hVm hs hρ hz hp
    exact ⟨w', ch, n, ρ, _, e, hF, hB, Or.inl ⟨s, hs, hρ, hz, rfl, rfl, rfl, hch⟩⟩
  · have hz : ∀ x, x < n → ρ x = r → kz ((SA w).kq (r : Int)) (c x) ≠ kz ((SA w).kq (r : Int)) m := fun x hx hρ q => hno x hx hρ ((kk x hx hρ).mpr q)
    obtain ⟨w', e, hF, hB⟩ := takeB_new h hn48 hr hd hm hz hp
    exact ⟨w', 1, n + 1, _, _, e, hF, hB, Or.inr ⟨hz, rfl, rfl, rfl, rfl⟩⟩
