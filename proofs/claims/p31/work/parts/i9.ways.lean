/-! MEANING: what the least model has is given by a fact or by a rule; ways are positive -/
theorem supported {D : SH} {lv : Int → Nat} {FF : MM} {RR : RU → Prop} {M : MM} (hL : Lev D lv RR) (h : Least D lv FF RR M) {r : Int} {k : Nat} (hk : M r k) : (∃ k', FF r k' ∧ kz (D.kq r) k' = kz (D.kq r) k) ∨ (∃ R σ, RR R ∧ Sat M R σ ∧ R.tg = r ∧ kz (D.kq r) (tc σ R.ht) = kz (D.kq r) k) := by
  refine Classical.byContradiction fun hc => ?_
  let M' : MM := fun r' n => M r' n ∧ ¬ (r' = r ∧ n = k)
  have hM' : ∀ r' n, M' r' n → M r' n := fun r' n z => z.1
  have hO : OkM D M' := ⟨fun r' n z => h.1.1 r' n z.1, fun r' n m z1 z2 e => h.1.2 r' n m z1.1 z2.1 e⟩
  have hA : Agb lv (lv r) M M' := fun r' n hr' => ⟨fun z => ⟨z, fun e => by rw [e.1] at hr'; exact Nat.lt_irrefl _ hr'⟩, fun z => z.1⟩
  have hCl := (h.2 (lv r)).1
  have hC : Closed D lv FF RR M' (lv r) := by
    refine ⟨fun r' n hf hr' => ?_, fun R hR hs σ hS => ?_⟩
    · obtain ⟨m, hm, hle⟩ := hCl.1 r' n hf hr'
      refine ⟨m, ⟨hm, fun e => hc (Or.inl ⟨n, ?_, ?_⟩)⟩, hle⟩
      · rw [← e.1]; exact hf
      · rw [← e.1, ← e.2]; exact hle.1
    · obtain ⟨-, hlv⟩ := hL R hR
      have hS' : Sat M R σ := ⟨hS.1, fun p hp => by
        have hl := hS.2 p hp
        unfold lit at hl ⊢
        by_cases f0 : R.fm p = 0
        · rw [if_pos f0] at hl ⊢
          exact hl.1
        · rw [if_neg f0] at hl ⊢
          by_cases f1 : R.fm p = 1
          · rw [if_pos f1] at hl ⊢
            have hlt : lv (R.sj p) < lv r := by rw [← hs]; exact (hlv p hp).2 f1
            exact fun z => hl ((hA _ _ hlt).mp z)
          · rw [if_neg f1] at hl ⊢
            exact hl⟩
      obtain ⟨m, hm, hle⟩ := hCl.2 R hR hs σ hS'
      refine ⟨m, ⟨hm, fun e => hc (Or.inr ⟨R, σ, hR, hS', e.1, ?_⟩)⟩, hle⟩
      rw [← e.1, ← e.2]; exact hle.1
  obtain ⟨m, hm, hle⟩ := (h.2 (lv r)).2 M' hO hA hC r k rfl hk
  exact hm.2 ⟨rfl, (h.1.2 r k m hk hm.1 hle.1).symm⟩
theorem ways_factP {nF mm d now top f r k N n sA s : Nat} {L g : Nat → Nat} {w u : World} {ρ c ρ' c' : Nat → Nat} {Lc : Nat → List Nat} (hI : Inv nF mm d now top L g w u) (a1 : AMod w (g now) N ρ c Lc) (b1 : BMod u now n ρ' c') (b2 : VCs u n ρ' c') (hf : f < nF) (hr : r < 10) (hd : 1 ≤ w 3 r) (hsA : sA < N) (hρA : ρ sA = r) (hkA : kz ((SA w).kq (r : Int)) (c sA) = kz ((SA w).kq (r : Int)) k) (hsn : s < n) (hρ : ρ' s = r) (hks : kz ((SA u).kq (r : Int)) (c' s) = kz ((SA u).kq (r : Int)) k) (k0 : Int) (x : Nat) (hx : x < 100) :
    ∃ i : Nat, i ≤ 1 ∧ f_Dm_waysByFacts_16B w (r : Int) (sA : Int) (x : Int) (f : Int) = some (Sum.inl (((x + i : Nat) : Int), ((f + 1 : Nat) : Int))) ∧ f_Re_ways_47B u (r : Int) (s : Int) (x : Int) (f : Int) = some (Sum.inl (((x + i : Nat) : Int), ((f + 1 : Nat) : Int))) ∧ (∀ fk : Nat, FaC w (now : Int) 0 f → w 8 f = (r : Int) → w 9 f = (fk : Int) → kz ((SA w).kq (r : Int)) fk = kz ((SA w).kq (r : Int)) k → i = 1) := by
  obtain ⟨i1, i2, i3, i4, i5, i6, i7, i8, i9, i10, i11⟩ := id hI
  have n7A : w 7 0 = (nF : Int) := i2.1.1
  have h24 : nF ≤ 24 := i2.1.2.1
  have n7B : u 1 7 = (nF : Int) := i2.2.1.1
  obtain ⟨v, v1, v2, v3⟩ := holds_both hI hf
  have vC : FaC w (now : Int) 0 f → v = 1 := fun hC => by
    obtain ⟨v9, y1, y2, y3⟩ := holdsIn_n (hour := (now : Int)) n7A h24 hf
    rw [i6.1, y1] at v1
    have := some_inj v1
    have := y3.mpr ⟨hC.1, hC.2.1, hC.2.2.1⟩
    omega
  obtain ⟨f7, ⟨fk, fk1, fk2, fk3⟩, -⟩ := i2.2.2.1 f hf
  obtain ⟨r0, k0', z1, z2, z3, z4, z5, z6⟩ := i2.1.2.2 f hf
  have ek : k0' = fk := by omega
  subst ek
  have e81 : ∀ i : Nat, i ≤ 1 → f_Dm_waysByFacts_81 w (r : Int) (sA : Int) ((x + i : Nat) : Int) (f : Int) = some (Sum.inl (((x + i : Nat) : Int), ((f + 1 : Nat) : Int))) := fun i hi => by
    unfold f_Dm_waysByFacts_81
    rw [bl_s, wr_of (x := (f : Int) + 1) ⟨by omega, by omega⟩]
    rfl
  have e810 : f_Dm_waysByFacts_81 w (r : Int) (sA : Int) (x : Int) (f : Int) = some (Sum.inl (((x + 0 : Nat) : Int), ((f + 1 : Nat) : Int))) := e81 0 (by omega)
  have e133 : ∀ i : Nat, i ≤ 1 → f_Re_ways_133 u (r : Int) (s : Int) (f : Int) (x : Int) (i : Int) = some (Sum.inl (((x + i : Nat) : Int), ((f + 1 : Nat) : Int))) := fun i hi => by
    unfold f_Re_ways_133
    rw [bl_s, bl_s, wr_of (x := (f : Int) + 1) ⟨by omega, by omega⟩, wr_of (x := (x : Int) + (i : Int)) ⟨by omega, by omega⟩]
    rfl
  have e1331 : f_Re_ways_133 u (r : Int) (s : Int) (f : Int) (x : Int) 1 = some (Sum.inl (((x + 1 : Nat) : Int), ((f + 1 : Nat) : Int))) := e133 1 (by omega)
  have e132 : f_Re_ways_132 u (r : Int) (s : Int) (f : Int) (x : Int) = some (Sum.inl (((x + 0 : Nat) : Int), ((f + 1 : Nat) : Int))) := e133 0 (by omega)
  have hrel := relationOf_n n7A h24 hf
  have hbA : f_Dm_waysByFacts_16B w (r : Int) (sA : Int) (x : Int) (f : Int) = if v = 0 then f_Dm_waysByFacts_81 w (r : Int) (sA : Int) (x : Int) (f : Int) else (if w 8 f = (r : Int) then (bnd (f_Dm_present w) fun v16 => bnd (f_Fa_codeOf w (f : Int)) fun v19 => gd (kdA v16 = 6) (bnd (f_Mo_slotLike w v16 (r : Int) v19) fun v23 => if v23 = (sA : Int) then (bl (wr ((x : Int) + 1)) fun n27 => f_Dm_waysByFacts_81 w (r : Int) (sA : Int) n27 (f : Int)) else (f_Dm_waysByFacts_81 w (r : Int) (sA : Int) (x : Int) (f : Int)))) else f_Dm_waysByFacts_81 w (r : Int) (sA : Int) (x : Int) (f : Int)) := by
    unfold f_Dm_waysByFacts_16B
    rw [n7A, if_neg (by omega), v1, bnd_s, hrel, bnd_s]
  have hbB : f_Re_ways_47B u (r : Int) (s : Int) (x : Int) (f : Int) = if w 8 f = (r : Int) then (if v = 0 then f_Re_ways_132 u (r : Int) (s : Int) (f : Int) (x : Int) else (bnd (f_Re_place u (now : Int) (r : Int) (u 8 (3 * f)) (u 8 (3 * f + 1)) (u 8 (3 * f + 2))) fun v23 => if v23 = (s : Int) then (f_Re_ways_133 u (r : Int) (s : Int) (f : Int) (x : Int) 1) else (f_Re_ways_132 u (r : Int) (s : Int) (f : Int) (x : Int)))) else f_Re_ways_132 u (r : Int) (s : Int) (f : Int) (x : Int) := by
    have j0 : wr (3 * (f : Int)) = ((3 * f : Nat) : Int) := by rw [wr_of (x := 3 * (f : Int)) ⟨by omega, by omega⟩]; omega
    have j1 : wr (((3 * f : Nat) : Int) + 1) = ((3 * f + 1 : Nat) : Int) := by rw [wr_of (x := ((3 * f : Nat) : Int) + 1) ⟨by omega, by omega⟩]; omega
    have j2 : wr (((3 * f : Nat) : Int) + 2) = ((3 * f + 2 : Nat) : Int) := by rw [wr_of (x := ((3 * f : Nat) : Int) + 2) ⟨by omega, by omega⟩]; omega
    have g0 : 0 ≤ ((3 * f : Nat) : Int) ∧ ((3 * f : Nat) : Int) < 72 := ⟨by omega, by omega⟩
    have g1 : 0 ≤ ((3 * f + 1 : Nat) : Int) ∧ ((3 * f + 1 : Nat) : Int) < 72 := ⟨by omega, by omega⟩
    have g2 : 0 ≤ ((3 * f + 2 : Nat) : Int) ∧ ((3 * f + 2 : Nat) : Int) < 72 := ⟨by omega, by omega⟩
    unfold f_Re_ways_47B
    rw [n7B, if_neg (by omega), gd_t ⟨by omega, by omega⟩, Int.toNat_natCast, f7, j0, j1, j2, gd_t g0, gd_t g1, gd_t g2, Int.toNat_natCast, Int.toNat_natCast, Int.toNat_natCast, v2, bnd_s, i6.2.1]
  have hdu : 1 ≤ u 3 r := by rw [(i1.2 r hr).1]; exact hd
  by_cases hv : v = 0
  · refine ⟨0, by omega, ?_, ?_, fun fk hC _ _ _ => by have := vC hC; omega⟩
    · rw [hbA, if_pos hv, e810]
    · rw [hbB, if_pos hv, e132]
      exact ite_self _
  · by_cases hrr : w 8 f = (r : Int)
    · have er : r0 = r := by omega
      subst er
      have hcode : f_Fa_codeOf w (f : Int) = some (k0' : Int) := by rw [factCode_n n7A h24 hf, z4]
      obtain ⟨va, hva, hva2⟩ := slotA_eq i1.1 a1 hr hd z5 hsA hρA hkA
      have hVu : Vc u r0 k0' := by
        have e3 := (i1.2 r0 hr).1
        intro j h1 h2
        rw [e3] at h1
        exact z6 j h1 h2
      obtain ⟨vb, hvb, hvb2⟩ := placeB_eq (k := k) i1.T b1 b2 hr hdu z5 hVu hsn hρ hks
      have w0 : u 8 (3 * f) = ((clm k0' 0 : Nat) : Int) := fk3 0 (by omega)
      have w1 : u 8 (3 * f + 1) = ((clm k0' 1 : Nat) : Int) := fk3 1 (by omega)
      have w2 : u 8 (3 * f + 2) = ((clm k0' 2 : Nat) : Int) := fk3 2 (by omega)
      rw [if_neg hv, if_pos hrr, present_n i8 i6.2.2 i6.1, bnd_s, hcode, bnd_s, gd_t (kd_ref i8 (by omega)), hva, bnd_s] at hbA
      rw [if_pos hrr, if_neg hv, w0, w1, w2, hvb, bnd_s] at hbB
      rw [i1.SA] at hvb2
      by_cases q : kz ((SA w).kq (r0 : Int)) k0' = kz ((SA w).kq (r0 : Int)) k
      · refine ⟨1, by omega, ?_, ?_, fun _ _ _ _ _ => rfl⟩
        · rw [hbA, if_pos (hva2.mpr q), bl_s, wr_of (x := (x : Int) + 1) ⟨by omega, by omega⟩]
          exact e81 1 (by omega)
        · rw [hbB, if_pos (hvb2.mpr q), e1331]
      · refine ⟨0, by omega, ?_, ?_, fun fk9 _ _ h9 hk9 => absurd (by rw [show k0' = fk9 by omega]; exact hk9) q⟩
        · rw [hbA, if_neg (fun z => q (hva2.mp z)), e810]
        · rw [hbB, if_neg (fun z => q (hvb2.mp z)), e132]
    · refine ⟨0, by omega, ?_, ?_, fun _ _ h8 _ _ => absurd h8 hrr⟩
      · rw [hbA, if_neg hv, if_neg hrr, e810]
      · rw [hbB, if_neg hrr, e132]
theorem ways_factsP {nF mm d now top r k N n sA s : Nat} {L g : Nat → Nat} {w u : World} {ρ c ρ' c' : Nat → Nat} {Lc : Nat → List Nat} (hI : Inv nF mm d now top L g w u) (a1 : AMod w (g now) N ρ c Lc) (b1 : BMod u now n ρ' c') (b2 : VCs u n ρ' c') (hr : r < 10) (hd : 1 ≤ w 3 r) (hsA : sA < N) (hρA : ρ sA = r) (hkA : kz ((SA w).kq (r : Int)) (c sA) = kz ((SA w).kq (r : Int)) k) (hsn : s < n) (hρ : ρ' s = r) (hks : kz ((SA u).kq (r : Int)) (c' s) = kz ((SA u).kq (r : Int)) k) : ∀ (j f x : Nat), f + j = nF → x ≤ f → ∃ y : Nat, y ≤ 24 ∧ f_Dm_waysByFacts_16 w (r : Int) (sA : Int) (x : Int) (f : Int) = some (y : Int) ∧ f_Re_ways_47 u (r : Int) (s : Int) (x : Int) (f : Int) = f_Re_ways_145 u (r : Int) (s : Int) (y : Int) 0 ∧ x ≤ y ∧ (∀ f9 fk : Nat, f ≤ f9 → f9 < nF → FaC w (now : Int) 0 f9 → w 8 f9 = (r : Int) → w 9 f9 = (fk : Int) → kz ((SA w).kq (r : Int)) fk = kz ((SA w).kq (r : Int)) k → x + 1 ≤ y) := by
  have n7A : w 7 0 = (nF : Int) := hI.2.1.1.1
  have h24 : nF ≤ 24 := hI.2.1.1.2.1
  have n7B : u 1 7 = (nF : Int) := hI.2.1.2.1.1
  intro j
  induction j with
  | zero =>
    intro f x hf hx
    refine ⟨x, by omega, ?_, ?_, Nat.le_refl _, fun f9 _ h1 h2 _ _ _ _ => by omega⟩
    · unfold f_Dm_waysByFacts_16
      refine lp_out ?_
      show f_Dm_waysByFacts_16B w (r : Int) (sA : Int) (x : Int) (f : Int) = _
      unfold f_Dm_waysByFacts_16B
      rw [n7A, if_pos (by omega)]
    · have hb : f_Re_ways_47B u (r : Int) (s : Int) (x : Int) (f : Int) = bnd (f_Re_ways_145 u (r : Int) (s : Int) (x : Int) 0) fun y4 => some (Sum.inr y4) := by
        unfold f_Re_ways_47B
        rw [n7B, if_pos (by omega)]
      unfold f_Re_ways_47
      rw [lp_unfold]
      show bnd (f_Re_ways_47B u (r : Int) (s : Int) (x : Int) (f : Int)) _ = _
      rw [hb]
      cases f_Re_ways_145 u (r : Int) (s : Int) (x : Int) 0 with
      | none => rfl
      | some o => rfl
  | succ j ih =>
    intro f x hf hx
    obtain ⟨i, hi, h1, h2, hp⟩ := ways_factP hI a1 b1 b2 (show f < nF by omega) hr hd hsA hρA hkA hsn hρ hks 0 x (by omega)
    obtain ⟨y, y0, y1, y2, y3, y4⟩ := ih (f + 1) (x + i) (by omega) (by omega)
    refine ⟨y, y0, ?_, ?_, by omega, fun f9 fk g1 g2 g3 g4 g5 g6 => ?_⟩
    · rw [← y1]
      unfold f_Dm_waysByFacts_16
      exact lp_step (F := fun z : (Int × Int) => f_Dm_waysByFacts_16B w (r : Int) (sA : Int) z.1 z.2) (s := ((x : Int), (f : Int))) h1
    · rw [← y2]
      unfold f_Re_ways_47
      exact lp_step (F := fun z : (Int × Int) => f_Re_ways_47B u (r : Int) (s : Int) z.1 z.2) (s := ((x : Int), (f : Int))) h2
    · by_cases e9 : f9 = f
      · subst e9
        have := hp fk g3 g4 g5 g6
        omega
      · have := y4 f9 fk (by omega) g2 g3 g4 g5 g6
        omega
theorem ways_ruleP {nF mm d now top kk r k N n s x y : Nat} {L g : Nat → Nat} {w u : World} {ρ c ρ' c' : Nat → Nat} {Lc : Nat → List Nat} (hI : Inv nF mm d now top L g w u) (a1 : AMod w (g now) N ρ c Lc) (a2 : VCs w N ρ c) (b1 : BMod u now n ρ' c') (b2 : VCs u n ρ' c') (hn : n ≤ 48) (hs : ∀ r k, AM N ρ c r k ↔ AM n ρ' c' r k) (hkk : kk < mm) (hr : r < 10) (hd : 1 ≤ w 3 r) (hk : k < 2097152) (hVk : Vc u r k) (hsn : s < n) (hρ : ρ' s = r) (hks : kz ((SA u).kq (r : Int)) (c' s) = kz ((SA u).kq (r : Int)) k) (hx : x ≤ 1000000000) (hy : y ≤ 1000000000) :
    ∃ w1 u1 cN, f_Dm_waysByRules_5B w (r : Int) (k : Int) (x : Int) (kk : Int) = some (Sum.inl (w1, ((x + cN : Nat) : Int), ((kk + 1 : Nat) : Int))) ∧ f_Re_ways_145B u (r : Int) (s : Int) (y : Int) (kk : Int) = some (Sum.inl (u1, ((y + cN : Nat) : Int), ((kk + 1 : Nat) : Int))) ∧ QAr w w1 ∧ QBr u u1 ∧ u1 1 0 = u 1 0 ∧ cN < 9999999 ∧ (∀ σ, u 13 kk = 0 → (RBB u kk).tg = (r : Int) → Sat (AM n ρ' c') (RBB u kk) σ → kz ((SA u).kq (r : Int)) (tc σ (RBB u kk).ht) = kz ((SA u).kq (r : Int)) k → 1 ≤ cN) := by
  obtain ⟨i1, i2, i3, i4, i5, i6, i7, i8, i9, i10, i11⟩ := id hI
  have hm12 : mm ≤ 12 := i3.1.2.2.1
  have hk12 : kk < 12 := by omega
  obtain ⟨rA1, rA2, -⟩ := i3.1.2.2.2.2 kk hkk
  obtain ⟨⟨rB1, rT, rB3, rB4⟩, -⟩ := i3.2.1.2.2 kk hkk
  obtain ⟨k1, k2, k3, k4, k5, k6⟩ := i3.2.2 kk hkk
  have htg : u 14 kk = w (22 + 4 * kk) 1 := k1.2.2.1
  have nA : w 14 4 = (mm : Int) := i3.1.2.1
  have nB : u 1 14 = (mm : Int) := i3.2.1.1
  have hkd : kdA (22 + 4 * kk) = 1 := kd_rule kk hk12
  have hrl := rule_n (w := w) hk12 (i3.1.2.2.2.1 kk hk12)
  have e74 : ∀ (v : World), f_Dm_waysByRules_74 v (r : Int) (k : Int) (x : Int) (kk : Int) = some (Sum.inl (v, ((x + 0 : Nat) : Int), ((kk + 1 : Nat) : Int))) := fun v => by
    unfold f_Dm_waysByRules_74
    rw [bl_s, wr_of (x := (kk : Int) + 1) ⟨by omega, by omega⟩]
    rfl
  have e247 : ∀ (v : World), f_Re_ways_247 v (r : Int) (s : Int) (y : Int) (kk : Int) = some (Sum.inl (v, ((y + 0 : Nat) : Int), ((kk + 1 : Nat) : Int))) := fun v => by
    unfold f_Re_ways_247
    rw [bl_s, wr_of (x := (kk : Int) + 1) ⟨by omega, by omega⟩]
    rfl
  have bodyA : f_Dm_waysByRules_5B w (r : Int) (k : Int) (x : Int) (kk : Int) = bnd (f_Dm_canGive w (22 + 4 * kk) (r : Int) (k : Int) ((RB w (22 + 4 * kk)).ln : Int)) fun v10 => if v10.2 = 0 then (f_Dm_waysByRules_74 v10.1 (r : Int) (k : Int) (x : Int) (kk : Int)) else (f_Dm_waysByRules_47 v10.1 (r : Int) (k : Int) (x : Int) (kk : Int) 0) := by
    unfold f_Dm_waysByRules_5B
    rw [nA, if_neg (by omega), hrl, bnd_s, gd_t hkd, rA1]
  have bodyB : f_Re_ways_145B u (r : Int) (s : Int) (y : Int) (kk : Int) = f_Re_ways_158 (bgB u) (r : Int) (s : Int) (y : Int) (kk : Int) := by
    unfold f_Re_ways_145B
    rw [nB, if_neg (by omega), beginB_n, bnd_s]
  have hFb := bgB_Q (w := u)
  have hVb := bgB_VB i11
  by_cases act : w (22 + 4 * kk) 2 = 0 ∧ w (22 + 4 * kk) 1 = (r : Int)
  · have htgR : (RBB u kk).tg = (r : Int) := htg.trans act.2
    have hhtA : ∀ c, c < 3 → -8 ≤ (RB w (22 + 4 * kk)).ht c ∧ (RB w (22 + 4 * kk)).ht c < 128 := rA2.2.2.2.2.2.2
    have hhtB : ∀ c, c < 3 → -8 ≤ (RBB u kk).ht c ∧ (RBB u kk).ht c < 128 := fun c hc => by rw [k1.2.2.2 c hc]; exact hhtA c hc
    have hu3 : u 3 r = w 3 r := (i1.2 r hr).1
    have hu4 : u 4 r = w 4 r := (i1.2 r hr).2.1
    have emny : mny u r = mny w r := by unfold mny; rw [hu3, hu4]
    have hdu : 1 ≤ u 3 r := by rw [hu3]; exact hd
    have hz : ∀ c : Nat, c < 3 → u 3 r ≤ (c : Int) → (RBB u kk).ht c = 0 := fun c h1 h2 => by
      have := (rB4.2.2.2.2.1).2 c (by rw [htgR, SA_co hr]; omega) h1
      exact this
    have hSLB := k1.T.safeL.mp k4
    have hg := canGive_n (E := (RB w (22 + 4 * kk)).ln) (k := k) hkd (kd_ref i8 (by omega)) i1.1 (present_n i8 i6.2.2 i6.1) hr hd hk i10 hhtA act.1 act.2
    obtain ⟨jB, hQB, hSlB⟩ := walkB_it (E := (RBB u kk).ln) ⟨rB1, rT, rB3, rB4.L⟩ hSLB b1 hn b2 (Nat.le_refl _) hFb hVb bgB_by (by rw [bgB_1, if_pos rfl])
    have hHB : SafeH (RBB u kk) := fun cc hcc hneg => by
      rw [k1.2.2.2 cc hcc] at hneg ⊢
      obtain ⟨p, c1, hp, hc1, hf, he⟩ := k5 cc hcc hneg
      obtain ⟨q1, -, q3⟩ := k1.2.1 p hp
      exact ⟨p, c1, by rw [k1.1]; exact hp, hc1, by rw [q1]; exact hf, by rw [q3 c1 hc1]; exact he⟩
    have hbd : ∀ z, z ∈ en (oq (SA u) (AM n ρ' c') (RBB u kk) ρ' c') (fun d => cand (RBB u kk) n d 0) (RBB u kk).ln 0 (vB (bgB u)) [] → VV z.1 ∧ ∀ c, c < 3 → 0 ≤ vl z.1 ((RBB u kk).ht c) := fun z hzz => by
      obtain ⟨q1, q2, q3, q4, -⟩ := En_HQ hQB hSlB cand_CQ (RBB u kk).ln 0 (vB (bgB u)) [] z (by omega) (HQ.zero hVb.vv) ((mem_en _ _ _ _ _).mp hzz)
      exact ⟨q1, fun c hc => hdB_cov hHB (fun j c' hj hc' _ => (q4 j hj).1 c' hc') hc⟩
    have hcu := fun (l : Nat) => l
    have goB : ∀ cN : Nat, cN < 9999999 → cN = ((en (oq (SA u) (AM n ρ' c') (RBB u kk) ρ' c') (fun d => cand (RBB u kk) n d 0) (RBB u kk).ln 0 (vB (bgB u)) []).filter (PkQ (SA u) (RBB u kk) r k)).length → (en (oq (SA u) (AM n ρ' c') (RBB u kk) ρ' c') (fun d => cand (RBB u kk) n d 0) (RBB u kk).ln 0 (vB (bgB u)) []).length < 900000000 → ∃ u1, f_Re_ways_145B u (r : Int) (s : Int) (y : Int) (kk : Int) = some (Sum.inl (u1, ((y + cN : Nat) : Int), ((kk + 1 : Nat) : Int))) ∧ FrQ u u1 ∧ VB u1 := fun cN h1 h2 h3 => by
      obtain ⟨u1, p1, p2, p3⟩ := waysB_loop (w := u) (M := now) (E := (RBB u kk).ln) hk12 rT b1 b2 hr hdu htgR i6.2.1 (by rw [k2]; exact act.1) rB3 hhtB hz hsn hρ hks _ (bgB u) y jB hFb hbd (by omega)
      exact ⟨u1, by rw [bodyB, p1, h2], p2, p3⟩
    have hlenB : (en (oq (SA u) (AM n ρ' c') (RBB u kk) ρ' c') (fun d => cand (RBB u kk) n d 0) (RBB u kk).ln 0 (vB (bgB u)) []).length < 900000000 := by
      have h5 : (RBB u kk).ln ≤ 5 := rB4.1
      have hlen := en_len (F := fun _ => true) (O := oq (SA u) (AM n ρ' c') (RBB u kk) ρ' c') (C := fun d => cand (RBB u kk) n d 0) (RBB u kk).ln 0 (vB (bgB u)) [] (fun j _ hj => by
        rw [if_pos rfl]
        show (cand (RBB u kk) n j 0).length ≤ 48
        unfold cand
        split
        · rw [List.length_range']; omega
        · rw [if_pos rfl]; decide)
      have hwg : ∀ E, E ≤ 5 → wg (fun _ => true) E 0 < 900000000 := by decide +kernel
      have := hwg _ h5
      omega
    have hpos : ∀ σ, Sat (AM n ρ' c') (RBB u kk) σ → kz ((SA u).kq (r : Int)) (tc σ (RBB u kk).ht) = kz ((SA u).kq (r : Int)) k → 1 ≤ ((en (oq (SA u) (AM n ρ' c') (RBB u kk) ρ' c') (fun d => cand (RBB u kk) n d 0) (RBB u kk).ln 0 (vB (bgB u)) []).filter (PkQ (SA u) (RBB u kk) r k)).length := fun σ hS hkσ => by
      obtain ⟨y9, hy, hKy⟩ := En_ex hQB (cand_CQ (ρ := ρ')) hS.1 (fun p hp => hS.2 p hp) (RBB u kk).ln 0 (vB (bgB u)) [] (by omega) hVb.vv (fun j c' hj => absurd hj (Nat.not_lt_zero j)) bgB_cons
      have hym := (mem_en _ _ _ _ _).mpr hy
      obtain ⟨q1, q2, q3, q4, -⟩ := En_HQ hQB hSlB cand_CQ (RBB u kk).ln 0 (vB (bgB u)) [] y9 (by omega) (HQ.zero hVb.vv) hy
      have hcov : CovQ (RBB u kk) (RBB u kk).ln y9.1 := fun j c' hj hc' _ => (q4 j hj).1 c' hc'
      refine List.length_pos_of_mem (List.mem_filter.mpr ⟨hym, ?_⟩)
      unfold PkQ
      rw [hdB_cons hHB hcov hKy (fun c hc => (hhtB c hc).1)]
      exact decide_eq_true hkσ
    cases hgg : gv (RB w (22 + 4 * kk)).ht (fun c => (tm8 (mny w r)).testBit c) (clm k) 3 0 nov with
    | none =>
      rw [hgg] at hg
      obtain ⟨v', p1, p2⟩ := hg
      have h0 := ways_none (n := n) (ρ' := ρ') (c' := c') (C' := fun d => cand (RBB u kk) n d 0) (v0' := vB (bgB u)) k1 rT rfl hr hdu hk hVk hz hhtA hQB hSlB cand_CQ hVb.vv (by rw [emny]; exact hgg)
      obtain ⟨u1, t1, t2, t3⟩ := goB 0 (by decide) h0.symm hlenB
      refine ⟨setV (bg w (22 + 4 * kk) (g now) (RB w (22 + 4 * kk)).ln) v', u1, 0, ?_, t1, ⟨fun c hc => bgV_fr c (by omega), by rw [setV_104]; exact p1⟩, (FrQ.toR (M := 4) t2).QB t3, t2 1 0 (by decide) (by decide) (by decide) (fun z => by omega), by decide, fun σ _ _ hS hkσ => by have := hpos σ hS hkσ; omega⟩
      rw [bodyA, p2, bnd_s, if_pos rfl, e74]
    | some v =>
      rw [hgg] at hg
      obtain ⟨v', p1, p2, p3⟩ := hg
      obtain ⟨hIt, hCQ, hQ, hlen⟩ := walkA_it (E := (RB w (22 + 4 * kk)).ln) (v0 := v') hkd (kd_ref i8 (k := now) (by omega)) i1.1 a1 rA2.L k4 k6 (Nat.le_refl _) p1
      have hcnt := ways_count (C' := fun d => cand (RBB u kk) n d 0) (v0' := vB (bgB u)) (k := k) k1 hs rT rfl hr hdu hk hVk hz k5 hhtA hQ (SlQ_A a1 a2) hCQ p1 (SuQ_A a1) hQB hSlB cand_CQ hVb.vv (SuQ_B b1) vB_nov (by rw [emny, p2]; exact hgg)
      obtain ⟨w1, q1, q2, q3⟩ := waysA_loop (x1 := (r : Int)) (x2 := (k : Int)) hk12 _ _ 0 x hIt (by omega) (by omega)
      obtain ⟨u1, t1, t2, t3⟩ := goB _ hlen hcnt hlenB
      refine ⟨w1, u1, _, ?_, t1, ⟨fun c hc => (bgV_fr.trans q2.r3) c (by omega), q3⟩, (FrQ.toR (M := 4) t2).QB t3, t2 1 0 (by decide) (by decide) (by decide) (fun z => by omega), hlen, fun σ _ _ hS hkσ => by rw [hcnt]; exact hpos σ hS hkσ⟩
      rw [bodyA, p3, bnd_s, if_neg z10]
      exact q1
  · refine ⟨w, bgB u, 0, ?_, ?_, QAr.refl i10, (FrQ.toR (M := 4) hFb).QB hVb, hFb 1 0 (by decide) (by decide) (by decide) (fun z => by omega), by decide, fun σ h13 htg9 _ _ => absurd ⟨k2.symm.trans h13, htg.symm.trans htg9⟩ act⟩
    · have hc : f_Dm_canGive w (22 + 4 * kk) (r : Int) (k : Int) ((RB w (22 + 4 * kk)).ln : Int) = some (w, 0) := by
        unfold f_Dm_canGive
        by_cases q : w (22 + 4 * kk) 2 = 0
        · rw [if_pos q, if_neg (fun z => act ⟨q, z⟩)]
        · rw [if_neg q]
      rw [bodyA, hc, bnd_s, if_pos rfl, e74]
    · rw [bodyB]
      unfold f_Re_ways_158
      refine lp_out ?_
      show f_Re_ways_158B (bgB u) (r : Int) (s : Int) (y : Int) (kk : Int) = _
      unfold f_Re_ways_158B
      rw [gd_t ⟨by omega, by omega⟩, Int.toNat_natCast, bgB_fr (show 13 ≠ 1 by decide) (by decide), bgB_fr (show 14 ≠ 1 by decide) (by decide), k2, htg]
      by_cases q : w (22 + 4 * kk) 2 = 0
      · rw [if_pos q, gd_t ⟨by omega, by omega⟩, if_neg (fun z => act ⟨q, z⟩), e247, bnd_s]
      · rw [if_neg q, e247, bnd_s]
theorem ways_rulesP {nF mm d now top r k N n s : Nat} {L g : Nat → Nat} {wA wB : World} {ρ c ρ' c' : Nat → Nat} {Lc : Nat → List Nat} (hI : Inv nF mm d now top L g wA wB) (a1 : AMod wA (g now) N ρ c Lc) (a2 : VCs wA N ρ c) (b1 : BMod wB now n ρ' c') (b2 : VCs wB n ρ' c') (hn : n ≤ 48) (hs : ∀ r k, AM N ρ c r k ↔ AM n ρ' c' r k) (hr : r < 10) (hd : 1 ≤ wA 3 r) (hk : k < 2097152) (hVk : Vc wB r k) (hsn : s < n) (hρ : ρ' s = r) (hks : kz ((SA wB).kq (r : Int)) (c' s) = kz ((SA wB).kq (r : Int)) k) : ∀ (j kk x y : Nat) (w u : World), kk + j = mm → x ≤ 10000000 * kk → y ≤ 24 + 10000000 * kk → QAr wA w → QBr wB u → u 1 0 = wB 1 0 →
    ∃ w' u' cN, f_Dm_waysByRules_5 w (r : Int) (k : Int) (x : Int) (kk : Int) = some (w', ((x + cN : Nat) : Int)) ∧ f_Re_ways_145 u (r : Int) (s : Int) (y : Int) (kk : Int) = some (u', ((y + cN : Nat) : Int)) ∧ QAr wA w' ∧ QBr wB u' ∧ u' 1 0 = wB 1 0 ∧ x + cN ≤ 120000000 ∧ (∀ k9 σ, kk ≤ k9 → k9 < mm → wB 13 k9 = 0 → (RBB wB k9).tg = (r : Int) → Sat (AM n ρ' c') (RBB wB k9) σ → kz ((SA wB).kq (r : Int)) (tc σ (RBB wB k9).ht) = kz ((SA wB).kq (r : Int)) k → 1 ≤ cN) := by
  have hm12 : mm ≤ 12 := hI.2.2.1.1.2.2.1
  intro j
  induction j with
  | zero =>
    intro kk x y w u hkk hx hy hA hB hz
    have hJ := Inv_q hA hB hI
    have nA : w 14 4 = (mm : Int) := hJ.2.2.1.1.2.1
    have nB : u 1 14 = (mm : Int) := hJ.2.2.1.2.1.1
    refine ⟨w, u, 0, ?_, ?_, hA, hB, hz, by omega, fun k9 _ h1 h2 _ _ _ _ => by omega⟩
    · unfold f_Dm_waysByRules_5
      refine lp_out ?_
      show f_Dm_waysByRules_5B w (r : Int) (k : Int) (x : Int) (kk : Int) = _
      unfold f_Dm_waysByRules_5B
      rw [nA, if_pos (by omega)]
      rfl
    · unfold f_Re_ways_145
      refine lp_out ?_
      show f_Re_ways_145B u (r : Int) (s : Int) (y : Int) (kk : Int) = _
      unfold f_Re_ways_145B
      rw [nB, if_pos (by omega)]
      rfl
  | succ j ih =>
    intro kk x y w u hkk hx hy hA hB hz
    have hJ := Inv_q hA hB hI
    have hg := hI.2.2.2.2.2.2.2.1.rng (i := now) (by have := hI.2.2.2.2.2.1.2.2; omega)
    have h4 := hI.2.2.2.2.2.1.2.2
    have hA3 : ∀ c, c < 98 → w c = wA c := fun c hc => hA.1 c (Or.inl hc)
    have a1' : AMod w (g now) N ρ c Lc := AMod_congr (fun c _ _ => hA3 c (by omega)) (fun c _ _ => hA.1 c (Or.inr (by omega))) a1
    have hB3 : ∀ c, 2 ≤ c → c < 20 → u c = wB c := fun c h1 h2 => funext fun k => hB.1 c k (Or.inl h2) (fun z => by omega)
    have b1' : BMod u now n ρ' c' := BMod_q (fun c h1 h2 => hB3 c (by omega) (by omega)) (hB.2.1 now (by omega)) (fun s hs => hB.2.2.1 _ (by omega)) (fun s hs => hB.2.2.2.1 _ (by omega)) b1
    have hSB : SA u = SA wB := SA_c5 (fun c h1 h2 => hB3 c (by omega) (by omega))
    obtain ⟨w1, u1, cN, p1, p2, p3, p4, p5, p6, p7⟩ := ways_ruleP (x := x) (y := y) hJ a1' (VCs_3 (hA3 3 (by omega)) a2) b1' (VCs_3 (hB3 3 (by omega) (by omega)) b2) hn hs (show kk < mm by omega) hr (by rw [hA3 3 (by omega)]; exact hd) hk ((Vc_3 (hB3 3 (by omega) (by omega))).mpr hVk) hsn hρ (by rw [hSB]; exact hks) (by omega) (by omega)
    obtain ⟨w', u', cM, t1, t2, t3, t4, t5, t6, t7⟩ := ih (kk + 1) (x + cN) (y + cN) w1 u1 (by omega) (by omega) (by omega) (hA.trans p3) (hB.trans p4) (p5.trans hz)
    refine ⟨w', u', cN + cM, ?_, ?_, t3, t4, t5, by omega, fun k9 σ g1 g2 g3 g4 g5 g6 => ?_⟩
    · rw [show x + (cN + cM) = x + cN + cM by omega, ← t1]
      unfold f_Dm_waysByRules_5
      exact lp_step (F := fun z : (World × Int × Int) => f_Dm_waysByRules_5B z.1 (r : Int) (k : Int) z.2.1 z.2.2) (s := (w, (x : Int), (kk : Int))) p1
    · rw [show y + (cN + cM) = y + cN + cM by omega, ← t2]
      unfold f_Re_ways_145
      exact lp_step (F := fun z : (World × Int × Int) => f_Re_ways_145B z.1 (r : Int) (s : Int) z.2.1 z.2.2) (s := (u, (y : Int), (kk : Int))) p2
    · by_cases e9 : k9 = kk
      · subst e9
        have hRk : RBB u k9 = RBB wB k9 := RBB_congr (fun c h1 h2 => hB3 c (by omega) (by omega)) k9
        have := p7 σ (by rw [hB3 13 (by omega) (by omega)]; exact g3) (by rw [hRk]; exact g4) (by rw [hRk]; exact g5) (by rw [hRk, hSB]; exact g6)
        omega
      · have := t7 k9 σ (by omega) g2 g3 g4 g5 g6
        omega
theorem ways_rng {wA wB : World} (hII : II wA wB) {r : Nat} {x y z : Int} (hr : r < 10) (hdr : 1 ≤ wB 3 r) : (f_Dm_holds wA (r : Int) x y z = some (wA, 0, 1) ∧ ∃ v w', f_Dm_ways wA (r : Int) x y z = some (w', 0, v) ∧ 1 ≤ v) ∨ (f_Dm_holds wA (r : Int) x y z = some (wA, 0, 0) ∧ f_Dm_ways wA (r : Int) x y z = some (wA, 0, 0)) := by
  have hA : f_Sc_isDeclared wA (r : Int) = some 1 := isdecl hII hr hdr
  have hd : 1 ≤ wA 3 r := by rw [(num_AB hII).2.2.2.2.2 r hr]; exact hdr
  obtain ⟨nF, m, d, now, top, L, g, hI⟩ := id hII
  obtain ⟨i1, i2, i3, i4, i5, i6, i7, i8, i9, i10, i11⟩ := id hI
  have hI0 : Inv nF m d now top L g wA (up wB 1 0 0) := Inv_up10 hI
  obtain ⟨j1, j2, j3, j4, j5, j6, j7, j8, j9, j10, j11⟩ := id hI0
  obtain ⟨⟨N, ρ, c, Lc, a1, a2, a3, a4, -⟩, n, ρ', c', b1, b2, b3, b4⟩ := (j9 now j6.2.2).A
  have hs := least_both hI0.low.S a4 b4
  have hdu : 1 ≤ up wB 1 0 0 3 r := by rw [(j1.2 r hr).1]; exact hd
  obtain ⟨vA, hvA, qA⟩ := isInA_n (x := x) (y := y) (z := z) i1.1 a1 a2 hr hd
  have startA : f_Dm_ways wA (r : Int) x y z = if vA = 0 then (some (wA, 0, 0)) else (bnd (f_Dm_packed x y z) fun v16 => bnd (f_Dm_waysByFacts wA (r : Int) v16) fun v19 => bnd (f_Dm_waysByRules wA (r : Int) v16) fun v22 => some (v22.1, 0, wr (v19 + v22.2))) := by
    unfold f_Dm_ways
    rw [hA, bnd_s, if_neg z10, present_n i8 i6.2.2 i6.1, bnd_s, gd_t (kd_ref i8 (by omega)), hvA, bnd_s]
  have startH : f_Dm_holds wA (r : Int) x y z = bnd (some vA) fun v => gd (v = 0 ∨ v = 1) (some (wA, 0, v)) := by
    unfold f_Dm_holds
    rw [hA, bnd_s, if_neg z10, present_n i8 i6.2.2 i6.1, bnd_s, gd_t (kd_ref i8 (by omega)), hvA]
  by_cases hin : Hs (AM N ρ c) (r : Int) x y z
  · left
    have hvA1 : vA = 1 := by
      rcases qA with ⟨z, -⟩ | ⟨-, z⟩
      · exact z
      · exact absurd hin z
    subst hvA1
    refine ⟨by rw [startH, bnd_s, gd_t (Or.inr rfl)], ?_⟩
    obtain ⟨k, hkM, hkj⟩ := hin
    obtain ⟨sA, hsA, hρA, hcA⟩ := id hkM
    obtain ⟨s, hsn, hρ, hcs⟩ := (hs _ _).mp hkM
    have hρA : ρ sA = r := by omega
    have hρ : ρ' s = r := by omega
    have hk : k < 2097152 := by have := (a1.2.2.2.2.1 sA hsA).2.2.1; omega
    have hVk : Vc (up wB 1 0 0) r k := by have := b2 s hsn; rw [hρ, hcs] at this; exact this
    have e2 : x = ((clm k 0 : Nat) : Int) := (hkj 0 (by omega)).symm
    have e3 : y = ((clm k 1 : Nat) : Int) := (hkj 1 (by omega)).symm
    have e4 : z = ((clm k 2 : Nat) : Int) := (hkj 2 (by omega)).symm
    have hkA : kz ((SA wA).kq (r : Int)) (c sA) = kz ((SA wA).kq (r : Int)) k := by rw [hcA]
    have hks : kz ((SA (up wB 1 0 0)).kq (r : Int)) (c' s) = kz ((SA (up wB 1 0 0)).kq (r : Int)) k := by rw [hcs]
    have hpk : f_Dm_packed x y z = some (k : Int) := by
      rw [e2, e3, e4, packed_n clm_lt clm_lt clm_lt, clm_pk hk]
    obtain ⟨va, hva, hva2⟩ := slotA_eq (k := k) (m := k) i1.1 a1 hr hd hk hsA hρA hkA
    have hva3 := hva2.mpr rfl
    obtain ⟨y0, y00, y1, y2, y3, y4⟩ := ways_factsP (k := k) hI0 a1 b1 b2 hr hd hsA hρA hkA hsn hρ hks nF 0 0 (by omega) (by omega)
    obtain ⟨w', u', cN, t1, t2, t3, t4, t5, t6, t7⟩ := ways_rulesP hI0 a1 a2 b1 b2 b3 hs hr hd hk hVk hsn hρ hks m 0 0 y0 wA (up wB 1 0 0) (by omega) (by omega) (by omega) (QAr.refl j10) (QBr.refl j11) rfl
    have hF : f_Dm_waysByFacts wA (r : Int) (k : Int) = some (y0 : Int) := by
      unfold f_Dm_waysByFacts
      rw [present_n i8 i6.2.2 i6.1, bnd_s, gd_t (kd_ref i8 (by omega)), hva, bnd_s, hva3]
      exact y1
    have hRl : f_Dm_waysByRules wA (r : Int) (k : Int) = some (w', ((0 + cN : Nat) : Int)) := t1
    have hpos : 1 ≤ y0 + cN := by
      have hB := hI0.low.S.B
      rcases supported hB.2.1.2.2.2.2.1 b4 ((hs _ _).mp hkM) with ⟨k', hf, hk'⟩ | ⟨R, σ, hR, hS, htg, hk'⟩
      · rw [j1.SA] at hk'
        obtain ⟨f, f1, f2, f3, f4⟩ := (j2.FF _ _).mpr hf
        have := y4 f k' (Nat.zero_le _) f1 f2 f3 f4 hk'
        omega
      · obtain ⟨i, hi, hG, rfl⟩ := hR
        have := t7 i σ (Nat.zero_le _) hi hG htg hS hk'
        omega
    refine ⟨((y0 + cN : Nat) : Int), w', ?_, by omega⟩
    rw [startA, if_neg z10, hpk, bnd_s, hF, bnd_s, hRl, bnd_s, wr_of (x := (y0 : Int) + ((0 + cN : Nat) : Int)) ⟨by omega, by omega⟩]
    congr 3
    omega
  · right
    have hvA0 : vA = 0 := by
      rcases qA with ⟨-, z⟩ | ⟨z, -⟩
      · exact absurd z hin
      · exact z
    subst hvA0
    refine ⟨by rw [startH, bnd_s, gd_t (Or.inl rfl)], ?_⟩
    rw [startA, if_pos rfl]
