/-! BOTH: ways; the slot and the place of a tuple -/
def KuQ (D : SH) (n : Nat) (ρ c : Nat → Nat) : Prop := ∀ s s', s < n → s' < n → ρ s = ρ s' → kz (D.kq (ρ s : Int)) (c s) = kz (D.kq (ρ s : Int)) (c s') → s' = s
theorem KuQ_B {w : World} {M n : Nat} {ρ c : Nat → Nat} (h : BMod w M n ρ c) : KuQ (SA w) n ρ c := fun s s' hs hs' hρ hc => by
  refine Classical.byContradiction fun hne => ?_
  exact h.2.2.2.2 s s' hs hs' (fun e => hne e.symm) hρ hc
theorem pair_uni : ∀ (l : List Nat) (f : Nat → Nat), l.Pairwise (fun a b => f a < f b) → ∀ x y, x ∈ l → y ∈ l → f x = f y → y = x := by
  intro l f
  induction l with
  | nil => intro _ x y hx; cases hx
  | cons a l ih =>
    intro hp x y hx hy e
    have hp1 := List.pairwise_cons.mp hp
    rcases List.mem_cons.mp hx with h1 | h1
    · rcases List.mem_cons.mp hy with h2 | h2
      · rw [h1, h2]
      · have := hp1.1 y h2
        rw [h1] at e
        omega
    · rcases List.mem_cons.mp hy with h2 | h2
      · have := hp1.1 x h1
        rw [h2] at e
        omega
      · exact ih hp1.2 x y h1 h2 e
theorem KuQ_A {w : World} {t n : Nat} {ρ c : Nat → Nat} {L : Nat → List Nat} (h : AMod w t n ρ c L) : KuQ (SA w) n ρ c := fun s s' hs hs' hρ hc => by
  obtain ⟨a1, a2, a3, a4, a5, a6⟩ := h
  have hr := (a5 s hs).1
  have m1 := (a4 (ρ s) s hr).mpr ⟨hs, rfl⟩
  have m2 := (a4 (ρ s) s' hr).mpr ⟨hs', hρ.symm⟩
  exact pair_uni (L (ρ s)) (fun a => kz ((SA w).kq (ρ s : Int)) (c a)) (a6 (ρ s) hr) s s' m1 m2 hc
theorem slotA_eq {w : World} {t n r s m k : Nat} {ρ c : Nat → Nat} {L : Nat → List Nat} (hS : WfS w) (hA : AMod w t n ρ c L) (hr : r < 10) (hd : 1 ≤ w 3 r) (hm : m < 2097152) (hs : s < n) (hρ : ρ s = r) (hk : kz ((SA w).kq (r : Int)) (c s) = kz ((SA w).kq (r : Int)) k) : ∃ v, f_Mo_slotLike w t (r : Int) (m : Int) = some v ∧ (v = (s : Int) ↔ kz ((SA w).kq (r : Int)) m = kz ((SA w).kq (r : Int)) k) := by
  rcases slotLike_n hS hA hr hd hm with ⟨x, hx, hρx, hz, he⟩ | ⟨hz, he⟩
  · refine ⟨(x : Int), he, fun e => ?_, fun e => ?_⟩
    · have : x = s := by omega
      rw [← hz, this, hk]
    · have := KuQ_A hA s x hs hx (by omega) (by rw [hρ, hk, hz, e])
      rw [this]
  · refine ⟨-1, he, fun e => by omega, fun e => ?_⟩
    exact absurd (hk.trans e.symm) (hz s hs hρ)
theorem placeB_eq {w : World} {M n r s m k : Nat} {ρ c : Nat → Nat} (hT : WfT w) (hB : BMod w M n ρ c) (hV : VCs w n ρ c) (hr : r < 10) (hd : 1 ≤ w 3 r) (hm : m < 2097152) (hVm : Vc w r m) (hs : s < n) (hρ : ρ s = r) (hk : kz ((SA w).kq (r : Int)) (c s) = kz ((SA w).kq (r : Int)) k) : ∃ v, f_Re_place w (M : Int) (r : Int) ((clm m 0 : Nat) : Int) ((clm m 1 : Nat) : Int) ((clm m 2 : Nat) : Int) = some v ∧ (v = (s : Int) ↔ kz ((SA w).kq (r : Int)) m = kz ((SA w).kq (r : Int)) k) := by
  have hke : ∀ x, x < n → ρ x = r → (KE w c r ((clm m 0 : Nat) : Int) ((clm m 1 : Nat) : Int) ((clm m 2 : Nat) : Int) x ↔ kz ((SA w).kq (r : Int)) (c x) = kz ((SA w).kq (r : Int)) m) := fun x hx hρx => KE_kz hT hr hd (hB.2.2.2.1 x hx).2.2.2.1 hm (by have := hV x hx; rw [hρx] at this; exact this) hVm
  rcases place_n (x := ((clm m 0 : Nat) : Int)) (y := ((clm m 1 : Nat) : Int)) (z := ((clm m 2 : Nat) : Int)) hT hB hr hd with ⟨x, hx, hρx, hz, he⟩ | ⟨hz, he⟩
  · have hz := (hke x hx hρx).mp hz
    refine ⟨(x : Int), he, fun e => ?_, fun e => ?_⟩
    · have : x = s := by omega
      rw [← hz, this, hk]
    · have := KuQ_B hB s x hs hx (by omega) (by rw [hρ, hk, hz, e])
      rw [this]
  · refine ⟨-1, he, fun e => by omega, fun e => ?_⟩
    exact absurd ((hke s hs hρ).mpr (hk.trans e.symm)) (hz s hs hρ)
/-- the columns that tell make the key -/
theorem cols_kz {w : World} {r m k : Nat} (hT : WfT w) (hr : r < 10) (hd : 1 ≤ w 3 r) (hm : m < 2097152) (hk : k < 2097152) (hVm : Vc w r m) (hVk : Vc w r k) : (∀ j, j < mny w r → clm m j = clm k j) ↔ kz ((SA w).kq (r : Int)) m = kz ((SA w).kq (r : Int)) k := by
  have h := KE_kz (s := 0) (c := fun _ => m) hT hr hd hm hk hVm hVk
  rw [← h]
  have hm3 : mny w r ≤ 3 := by have := (hT r hr).1; unfold mny; split <;> omega
  unfold KE
  refine forall_congr' fun j => forall_congr' fun hj => ?_
  have : j = 0 ∨ j = 1 ∨ j = 2 := by omega
  rcases this with rfl | rfl | rfl
  · show _ ↔ ((clm m 0 : Nat) : Int) = ((clm k 0 : Nat) : Int)
    omega
  · show _ ↔ ((clm m 1 : Nat) : Int) = ((clm k 1 : Nat) : Int)
    omega
  · show _ ↔ ((clm m 2 : Nat) : Int) = ((clm k 2 : Nat) : Int)
    omega
/-- a head's tuple has 0 where there is no column -/
theorem tc_Vc {w : World} {R : RU} {r : Nat} {σ : Nat → Nat} (hσ : VA σ) (hht : ∀ c, c < 3 → -8 ≤ R.ht c ∧ R.ht c < 128) (hz : ∀ c : Nat, c < 3 → w 3 r ≤ (c : Int) → R.ht c = 0) : Vc w r (tc σ R.ht) := fun j h1 h2 => by
  rw [tc_clm hσ (fun c hc => (hht c hc).2) h2, hz j h2 h1]
  rfl
/-! THE CLASS: ways by rules, one rule's walk -/
theorem waysA_loop {b : Nat} {x1 x2 : Int} {kk : Nat} (hkk : kk < 12) : ∀ (l : List ((Nat → Int) × List Nat)) (w : World) (i x : Nat), ItA b l w → i + l.length < 10000000 → x + l.length < 2000000000 → ∃ w', f_Dm_waysByRules_47 w x1 x2 (x : Int) (kk : Int) (i : Int) = some (Sum.inl (w', ((x + l.length : Nat) : Int), ((kk + 1 : Nat) : Int))) ∧ FrW w w' ∧ VV (w' 104) := by
  have e74 : ∀ (u : World) (y : Int), f_Dm_waysByRules_74 u x1 x2 y (kk : Int) = some (Sum.inl (u, y, ((kk + 1 : Nat) : Int))) := fun u y => by
    unfold f_Dm_waysByRules_74
    rw [bl_s, wr_of (x := (kk : Int) + 1) ⟨by omega, by omega⟩]
    rfl
  intro l
  induction l with
  | nil =>
    intro w i x hI hi hx
    obtain ⟨w', q1, q2, q3⟩ := hI
    refine ⟨w', ?_, q2, q3⟩
    unfold f_Dm_waysByRules_47
    refine lp_out ?_
    show f_Dm_waysByRules_47B w x1 x2 (x : Int) (kk : Int) (i : Int) = _
    have hi : i < 10000000 := by simpa using hi
    unfold f_Dm_waysByRules_47B
    rw [if_neg (by omega), q1, bnd_s, if_pos rfl, e74, bnd_s]
    rfl
  | cons a l ih =>
    intro w i x hI hi hx
    rw [List.length_cons] at hi hx ⊢
    obtain ⟨w1, q1, q2, q3, -, -, q4⟩ := hI
    obtain ⟨w', p1, p2, p3⟩ := ih w1 (i + 1) (x + 1) (q4 w1 (fun _ _ => rfl)) (by omega) (by omega)
    refine ⟨w', ?_, q2.trans p2, p3⟩
    rw [show x + (l.length + 1) = x + 1 + l.length by omega, ← p1]
    unfold f_Dm_waysByRules_47
    refine lp_step (F := fun z : (World × Int × Int) => f_Dm_waysByRules_47B z.1 x1 x2 z.2.1 (kk : Int) z.2.2) (s := (w, (x : Int), (i : Int))) ?_
    show f_Dm_waysByRules_47B w x1 x2 (x : Int) (kk : Int) (i : Int) = _
    unfold f_Dm_waysByRules_47B
    rw [if_neg (by omega), q1, bnd_s, if_neg z10, bl_s, bl_s, wr_of (x := (x : Int) + 1) ⟨by omega, by omega⟩, wr_of (x := (i : Int) + 1) ⟨by omega, by omega⟩]
    rfl
/-! THE REFERENCE: ways by rules, one rule's walk -/
def PkQ (D : SH) (R : RU) (r k : Nat) (y : (Nat → Int) × List Nat) : Bool := decide (kz (D.kq (r : Int)) (tc (sg y.1) R.ht) = kz (D.kq (r : Int)) k)
theorem waysB_loop {w : World} {ru M E n r s k : Nat} {ρ c : Nat → Nat} (hru : ru < 12) (hT : WfT w) (hB : BMod w M n ρ c) (hVC : VCs w n ρ c) (hr : r < 10) (hd : 1 ≤ w 3 r) (htg : (RBB w ru).tg = (r : Int)) (hM : w 1 1 = (M : Int)) (h13 : w 13 ru = 0) (h16 : w 16 ru = (E : Int)) (hht : ∀ c, c < 3 → -8 ≤ (RBB w ru).ht c ∧ (RBB w ru).ht c < 128) (hz : ∀ c : Nat, c < 3 → w 3 r ≤ (c : Int) → (RBB w ru).ht c = 0) (hs : s < n) (hρ : ρ s = r) (hk : kz ((SA w).kq (r : Int)) (c s) = kz ((SA w).kq (r : Int)) k) : ∀ (l : List ((Nat → Int) × List Nat)) (u : World) (x : Nat), ItB ru E M l u → FrQ w u → (∀ y, y ∈ l → VV y.1 ∧ ∀ c, c < 3 → 0 ≤ vl y.1 ((RBB w ru).ht c)) → x + l.length < 2000000000 → ∃ u', f_Re_ways_158 u (r : Int) (s : Int) (x : Int) (ru : Int) = some (Sum.inl (u', ((x + (l.filter (PkQ (SA w) (RBB w ru) r k)).length : Nat) : Int), ((ru + 1 : Nat) : Int))) ∧ FrQ w u' ∧ VB u' := by
  have e247 : ∀ (u : World) (y : Int), f_Re_ways_247 u (r : Int) (s : Int) y (ru : Int) = some (Sum.inl (u, y, ((ru + 1 : Nat) : Int))) := fun u y => by
    unfold f_Re_ways_247
    rw [bl_s, wr_of (x := (ru : Int) + 1) ⟨by omega, by omega⟩]
    rfl
  have head : ∀ (u : World) (x : Nat), FrQ w u → f_Re_ways_158B u (r : Int) (s : Int) (x : Int) (ru : Int) = bnd (f_Re_next u (ru : Int) (E : Int) (M : Int)) fun v15 => if v15.2 = 0 then (bnd (f_Re_ways_247 v15.1 (r : Int) (s : Int) (x : Int) (ru : Int)) fun y19 => some (Sum.inr y19)) else (bnd (f_Re_headValue v15.1 (ru : Int) 0) fun v22 => bnd (f_Re_headValue v15.1 (ru : Int) 1) fun v25 => bnd (f_Re_headValue v15.1 (ru : Int) 2) fun v28 => bnd (f_Re_place v15.1 (v15.1 1 1) (r : Int) v22 v25 v28) fun v31 => if v31 = (s : Int) then (f_Re_ways_241 v15.1 (r : Int) (s : Int) (ru : Int) (x : Int) 1) else (f_Re_ways_241 v15.1 (r : Int) (s : Int) (ru : Int) (x : Int) 0)) := fun u x hF => by
    have e14 : u 14 ru = (r : Int) := by rw [hF.cell (by omega) (by omega)]; exact htg
    unfold f_Re_ways_158B
    rw [gd_t ⟨by omega, by omega⟩, Int.toNat_natCast, hF.cell (c := 13) (by omega) (by omega), if_pos h13, gd_t ⟨by omega, by omega⟩, e14, if_pos rfl, gd_t ⟨by omega, by omega⟩, hF.cell (c := 16) (by omega) (by omega), h16, hF 1 1 (by decide) (by decide) (by decide) (fun z => by omega), hM]
  intro l
  induction l with
  | nil =>
    intro u x hI hF _ hx
    obtain ⟨u1, q1, q2, q3⟩ := hI
    refine ⟨u1, ?_, hF.trans q2, q3⟩
    unfold f_Re_ways_158
    refine lp_out ?_
    show f_Re_ways_158B u (r : Int) (s : Int) (x : Int) (ru : Int) = _
    rw [head u x hF, q1, bnd_s, if_pos rfl, e247, bnd_s]
    rfl
  | cons a l ih =>
    intro u x hI hF hl hx
    rw [List.length_cons] at hx
    obtain ⟨u1, q1, q2, q3, q4, q5⟩ := hI
    have hF1 := hF.trans q2
    obtain ⟨hVa, hba⟩ := hl a List.mem_cons_self
    have hRB : RBB u1 ru = RBB w ru := hF1.R ru
    have e3 : u1 3 = w 3 := hF1.cell (by omega) (by omega)
    have hT1 : WfT u1 := WfT_congr (fun c a b => hF1.cell (by omega) (by omega)) hT
    have hB1 : BMod u1 M n ρ c := BMod_congr (fun k hk => hF1.cell (by omega) (by omega)) hB
    have hm : tc (sg a.1) (RBB w ru).ht < 2097152 := tc_lt (sg_VA hVa) (fun c hc => (hht c hc).2)
    have hhv : ∀ j : Nat, j < 3 → f_Re_headValue u1 (ru : Int) (j : Int) = some ((clm (tc (sg a.1) (RBB w ru).ht) j : Nat) : Int) := fun j hj => by
      have := headValue_n (w := u1) (ru := ru) (r := r) (j := j) (vs := a.1) (by omega) (by rw [hRB]; exact htg) hr hT1 q4 hVa (by rw [hRB]; exact hht) (by rw [hRB, e3]; exact hz) (by rw [hRB]; exact hba) hj
      rw [hRB] at this
      exact this
    have hVm : Vc u1 r (tc (sg a.1) (RBB w ru).ht) := tc_Vc (sg_VA hVa) hht (by rw [e3]; exact hz)
    obtain ⟨v, hv, hv2⟩ := placeB_eq (k := k) (s := s) hT1 hB1 (VCs_3 e3 hVC) hr (by rw [e3]; exact hd) hm hVm hs hρ (by rw [hF1.SA]; exact hk)
    rw [hF1.SA] at hv2
    have hi : f_Re_ways_158B u (r : Int) (s : Int) (x : Int) (ru : Int) = if v = (s : Int) then some (Sum.inl (u1, ((x + 1 : Nat) : Int))) else some (Sum.inl (u1, (x : Int))) := by
      have k0 : f_Re_headValue u1 (ru : Int) 0 = _ := hhv 0 (by omega)
      have k1 : f_Re_headValue u1 (ru : Int) 1 = _ := hhv 1 (by omega)
      have k2 : f_Re_headValue u1 (ru : Int) 2 = _ := hhv 2 (by omega)
      have e11 : u1 1 1 = (M : Int) := by rw [hF1 1 1 (by decide) (by decide) (by decide) (fun z => by omega)]; exact hM
      have e241 : ∀ i : Nat, i ≤ 1 → f_Re_ways_241 u1 (r : Int) (s : Int) (ru : Int) (x : Int) (i : Int) = some (Sum.inl (u1, ((x + i : Nat) : Int))) := fun i hi => by
        unfold f_Re_ways_241
        rw [bl_s, wr_of (x := (x : Int) + (i : Int)) ⟨by omega, by omega⟩]
        rfl
      have e2410 : f_Re_ways_241 u1 (r : Int) (s : Int) (ru : Int) (x : Int) 0 = some (Sum.inl (u1, (x : Int))) := e241 0 (by omega)
      have e2411 : f_Re_ways_241 u1 (r : Int) (s : Int) (ru : Int) (x : Int) 1 = some (Sum.inl (u1, ((x + 1 : Nat) : Int))) := e241 1 (by omega)
      rw [head u x hF, q1, bnd_s, if_neg z10]
      show bnd (f_Re_headValue u1 (ru : Int) 0) _ = _
      rw [k0, bnd_s]
      show bnd (f_Re_headValue u1 (ru : Int) 1) _ = _
      rw [k1, bnd_s]
      show bnd (f_Re_headValue u1 (ru : Int) 2) _ = _
      rw [k2, bnd_s]
      show bnd (f_Re_place u1 (u1 1 1) (r : Int) _ _ _) _ = _
      rw [e11, hv, bnd_s, e2410, e2411]
    have step : ∀ (x' : Nat) (o : Option ((World × Int × Int) ⊕ (World × Int))), f_Re_ways_158B u (r : Int) (s : Int) (x : Int) (ru : Int) = some (Sum.inl (u1, (x' : Int))) → f_Re_ways_158 u1 (r : Int) (s : Int) (x' : Int) (ru : Int) = o → f_Re_ways_158 u (r : Int) (s : Int) (x : Int) (ru : Int) = o := fun x' o h1 h2 => by
      rw [← h2]
      unfold f_Re_ways_158
      exact lp_step (F := fun z : (World × Int) => f_Re_ways_158B z.1 (r : Int) (s : Int) z.2 (ru : Int)) (s := (u, (x : Int))) h1
    by_cases q : v = (s : Int)
    · have hp : PkQ (SA w) (RBB w ru) r k a = true := decide_eq_true (hv2.mp q)
      rw [if_pos q] at hi
      obtain ⟨u', p1, p2, p3⟩ := ih u1 (x + 1) (q5 u1 GBw.refl) hF1 (fun y hy => hl y (List.mem_cons_of_mem _ hy)) (by omega)
      refine ⟨u', step (x + 1) _ hi ?_, p2, p3⟩
      rw [p1, List.filter_cons_of_pos hp, List.length_cons, show x + 1 + (l.filter (PkQ (SA w) (RBB w ru) r k)).length = x + ((l.filter (PkQ (SA w) (RBB w ru) r k)).length + 1) by omega]
    · have hp : ¬ PkQ (SA w) (RBB w ru) r k a = true := fun z => q (hv2.mpr (of_decide_eq_true z))
      rw [if_neg q] at hi
      obtain ⟨u', p1, p2, p3⟩ := ih u1 x (q5 u1 GBw.refl) hF1 (fun y hy => hl y (List.mem_cons_of_mem _ hy)) (by omega)
      refine ⟨u', step x _ hi ?_, p2, p3⟩
      rw [p1, List.filter_cons_of_neg hp]
