/-! BOTH: keys broken alike -/
def KBr (M : MM) (r : Int) (y : Nat) : Prop := ∃ k k', M r k ∧ M r k' ∧ k < k' ∧ ∀ j, j < y → clm k j = clm k' j
theorem pre_1 {k k' : Nat} (h : k < 2097152) (h' : k' < 2097152) : k / 2 ^ 14 = k' / 2 ^ 14 ↔ ∀ j, j < 1 → clm k j = clm k' j := by
  have e : (∀ j, j < 1 → clm k j = clm k' j) ↔ cl0 k = cl0 k' := ⟨fun z => z 0 (by omega), fun z j hj => by
    have : j = 0 := by omega
    subst this; exact z⟩
  rw [e]
  unfold cl0
  omega
theorem pre_2 {k k' : Nat} (h : k < 2097152) (h' : k' < 2097152) : k / 2 ^ 7 = k' / 2 ^ 7 ↔ ∀ j, j < 2 → clm k j = clm k' j := by
  have e : (∀ j, j < 2 → clm k j = clm k' j) ↔ cl0 k = cl0 k' ∧ cl1 k = cl1 k' := ⟨fun z => ⟨z 0 (by omega), z 1 (by omega)⟩, fun z j hj => by
    have : j = 0 ∨ j = 1 := by omega
    rcases this with rfl | rfl
    · exact z.1
    · exact z.2⟩
  rw [e]
  unfold cl0 cl1
  omega
theorem keyA_n {w : World} {t N r y : Nat} {ρ c : Nat → Nat} {Lc : Nat → List Nat} (hS : WfS w) (hA : AMod w t N ρ c Lc) (hVC : VCs w N ρ c) (hr : r < 10) (hd : 1 ≤ w 3 r) (hy : w 5 r = (y : Int)) (hy2 : y = 1 ∨ y = 2) : f_Mo_breaksKey w t (r : Int) = some (bi (KBr (AM N ρ c) (r : Int) y)) := by
  have hch := chain_lt hS hA hVC hr hd
  have h48 := hA.2.1
  have hmem := hA.2.2.2.1 r
  have hsl : ∀ s, s ∈ Lc r → s < 48 ∧ w (t + 3) s = (c s : Int) ∧ c s < 2097152 := fun s hs => by
    have h1 := (hmem s hr).mp hs
    have h2 := hA.2.2.2.2.1 s h1.1
    exact ⟨by omega, h2.2.1, h2.2.2.1⟩
  have hlen := hA.len hr
  have fin : ∀ sh : Nat, sh < 32 → (∀ k k', k < 2097152 → k' < 2097152 → (k / 2 ^ sh = k' / 2 ^ sh ↔ ∀ j, j < y → clm k j = clm k' j)) → f_Mo_breaksKey_26 w t (sh : Int) (w (t + 1) r) 0 0 = some (bi (KBr (AM N ρ c) (r : Int) y)) := fun sh hsh hp => by
    have h := keyA_loop hsh (Lc r) 0 (w (t + 1) r) (by omega) (hA.2.2.1 r hr) hsl
    rw [show ((0 : Nat) : Int) = 0 from rfl] at h
    rw [h]
    refine congrArg some (bi_c ((adj_iff (q := fun x => x / 2 ^ sh) (fun x y hxy => Nat.div_le_div_right hxy) (Lc r) hch).trans ?_))
    constructor
    · rintro ⟨a, b, ha, hb, hlt, he⟩
      have ma := (hmem a hr).mp ha
      have mb := (hmem b hr).mp hb
      exact ⟨c a, c b, ⟨a, ma.1, by rw [ma.2], rfl⟩, ⟨b, mb.1, by rw [mb.2], rfl⟩, hlt, (hp _ _ (hsl a ha).2.2 (hsl b hb).2.2).mp he⟩
    · rintro ⟨k, k', ⟨a, ha, hra, rfl⟩, ⟨b, hb, hrb, rfl⟩, hlt, he⟩
      have ma := (hmem a hr).mpr ⟨ha, by omega⟩
      have mb := (hmem b hr).mpr ⟨hb, by omega⟩
      exact ⟨a, b, ma, mb, hlt, (hp _ _ (hsl a ma).2.2 (hsl b mb).2.2).mpr he⟩
  unfold f_Mo_breaksKey f_Dm_shiftOf
  rw [keyOf_n hr, bnd_s, hy, bnd_s, firstOf_n hr, bnd_s]
  rcases hy2 with rfl | rfl
  · have e : wr ((wr (2 - (wr (((1 : Nat) : Int) - 1)))) * 7) = ((14 : Nat) : Int) := by decide +kernel
    rw [e]
    exact fin 14 (by omega) (fun k k' h h' => pre_1 h h')
  · have e : wr ((wr (2 - (wr (((2 : Nat) : Int) - 1)))) * 7) = ((7 : Nat) : Int) := by decide +kernel
    rw [e]
    exact fin 7 (by omega) (fun k k' h h' => pre_2 h h')
theorem KBr_par {w : World} {M n r y : Nat} {ρ c : Nat → Nat} (hB : BMod w M n ρ c) : (∃ a i, a < n ∧ i < a ∧ par ρ c r y a i) ↔ KBr (AM n ρ c) (r : Int) y := by
  constructor
  · rintro ⟨a, i, ha, hi, h1, h2, h3⟩
    have hne : c a ≠ c i := fun e => by
      have := hB.2.2.2.2 a i ha (by omega) (by omega) (by rw [h1, h2])
      rw [e] at this
      exact this rfl
    rcases Nat.lt_or_gt_of_ne hne with q | q
    · exact ⟨c a, c i, ⟨a, ha, by rw [h1], rfl⟩, ⟨i, by omega, by rw [h2], rfl⟩, q, h3⟩
    · exact ⟨c i, c a, ⟨i, by omega, by rw [h2], rfl⟩, ⟨a, ha, by rw [h1], rfl⟩, q, fun j hj => (h3 j hj).symm⟩
  · rintro ⟨k, k', ⟨a, ha, hra, rfl⟩, ⟨b, hb, hrb, rfl⟩, hlt, he⟩
    have hne : a ≠ b := fun e => by rw [e] at hlt; omega
    rcases Nat.lt_or_gt_of_ne hne with q | q
    · exact ⟨b, a, hb, q, by omega, by omega, fun j hj => (he j hj).symm⟩
    · exact ⟨a, b, ha, q, by omega, by omega, he⟩
theorem KBr_full {w : World} {n r y : Nat} {ρ c : Nat → Nat} (hlt : ∀ s, s < n → c s < 2097152) (hVC : VCs w n ρ c) (hy : w 3 r ≤ (y : Int)) : ¬ KBr (AM n ρ c) (r : Int) y := by
  rintro ⟨k, k', ⟨a, ha, hra, rfl⟩, ⟨b, hb, hrb, rfl⟩, hl, he⟩
  have ea : ρ a = r := by omega
  have eb : ρ b = r := by omega
  have va := hVC a ha
  have vb := hVC b hb
  rw [ea] at va
  rw [eb] at vb
  have : c a = c b := clm_inj (hlt a ha) (hlt b hb) (fun j hj => by
    by_cases q : j < y
    · exact he j q
    · rw [va j (by omega) hj, vb j (by omega) hj])
  omega
theorem keys_both {wA wB : World} {t M N n : Nat} {ρ c ρ' c' : Nat → Nat} {Lc : Nat → List Nat} (hSch : ISch wA wB) (a1 : AMod wA t N ρ c Lc) (a2 : VCs wA N ρ c) (b1 : BMod wB M n ρ' c') (b2 : VCs wB n ρ' c') (hs : ∀ r k, AM N ρ c r k ↔ AM n ρ' c' r k) : ∀ (j k x : Nat), k + j = 10 → x ≤ 6 + k →
    ∃ y : Int, f_Dm_brokenIn_61 wA t (x : Int) (k : Int) = some (wA, y) ∧ f_Re_brokenIn_51 wB (M : Int) (x : Int) (k : Int) = some (wB, y) := by
  intro j
  induction j with
  | zero =>
    intro k x hk hx
    have e : k = 10 := by omega
    subst e
    refine ⟨(x : Int), ?_, ?_⟩
    · unfold f_Dm_brokenIn_61
      refine lp_out ?_
      show f_Dm_brokenIn_61B wA t (x : Int) ((10 : Nat) : Int) = _
      unfold f_Dm_brokenIn_61B
      rw [if_pos (by decide)]
    · unfold f_Re_brokenIn_51
      refine lp_out ?_
      show f_Re_brokenIn_51B wB (M : Int) (x : Int) ((10 : Nat) : Int) = _
      unfold f_Re_brokenIn_51B
      rw [if_pos (by decide)]
  | succ j ih =>
    intro k x hk hx
    have hk10 : k < 10 := by omega
    obtain ⟨s3, s4, s5, s6, s7⟩ := hSch.1 k hk10
    obtain ⟨t3, t4, t5, t2⟩ := hSch.2 k hk10
    have e89 : ∀ z : Int, f_Dm_brokenIn_89 wA t z (k : Int) = some (Sum.inl (z, ((k + 1 : Nat) : Int))) := fun z => by
      unfold f_Dm_brokenIn_89
      rw [bl_s, wr_of (x := (k : Int) + 1) ⟨by omega, by omega⟩]
      rfl
    have e90 : ∀ i : Nat, i ≤ 1 → f_Re_brokenIn_90 wB (M : Int) (k : Int) (x : Int) (i : Int) = some (Sum.inl (((x + i : Nat) : Int), ((k + 1 : Nat) : Int))) := fun i hi => by
      unfold f_Re_brokenIn_90
      rw [bl_s, bl_s, wr_of (x := (k : Int) + 1) ⟨by omega, by omega⟩, wr_of (x := (x : Int) + (i : Int)) ⟨by omega, by omega⟩]
      rfl
    have e90z : f_Re_brokenIn_89 wB (M : Int) (k : Int) (x : Int) = some (Sum.inl ((x : Int), ((k + 1 : Nat) : Int))) := e90 0 (by omega)
    have e901 : f_Re_brokenIn_90 wB (M : Int) (k : Int) (x : Int) 1 = some (Sum.inl (((x + 1 : Nat) : Int), ((k + 1 : Nat) : Int))) := e90 1 (by omega)
    have go : ∀ x' : Nat, x' ≤ 6 + (k + 1) → f_Dm_brokenIn_61B wA t (x : Int) (k : Int) = some (Sum.inl ((x' : Int), ((k + 1 : Nat) : Int))) → f_Re_brokenIn_51B wB (M : Int) (x : Int) (k : Int) = some (Sum.inl ((x' : Int), ((k + 1 : Nat) : Int))) → ∃ y : Int, f_Dm_brokenIn_61 wA t (x : Int) (k : Int) = some (wA, y) ∧ f_Re_brokenIn_51 wB (M : Int) (x : Int) (k : Int) = some (wB, y) := fun x' hx' h1 h2 => by
      obtain ⟨y, y1, y2⟩ := ih (k + 1) x' (by omega) hx'
      refine ⟨y, ?_, ?_⟩
      · unfold f_Dm_brokenIn_61 at y1 ⊢
        rw [lp_step (F := fun z : (Int × Int) => f_Dm_brokenIn_61B wA t z.1 z.2) h1]
        exact y1
      · unfold f_Re_brokenIn_51 at y2 ⊢
        rw [lp_step (F := fun z : (Int × Int) => f_Re_brokenIn_51B wB (M : Int) z.1 z.2) h2]
        exact y2
    have hopen : f_Sc_hasOpenKey wA (k : Int) = some (if wA 4 k = 0 ∧ wA 5 k < wA 3 k then 1 else 0) := by
      unfold f_Sc_hasOpenKey
      rw [kindOf_n hk10, bnd_s]
      by_cases q : wA 4 k = 0
      · rw [if_pos q, keyOf_n hk10, bnd_s, columnsOf_n hk10, bnd_s]
        by_cases q2 : wA 3 k ≤ wA 5 k
        · rw [if_pos q2, if_neg (by omega)]
        · rw [if_neg q2, if_pos ⟨q, by omega⟩]
      · rw [if_neg q, if_neg (fun z => q z.1)]
    have hA0 : f_Dm_brokenIn_61B wA t (x : Int) (k : Int) = if wA 4 k = 0 ∧ wA 5 k < wA 3 k then (bnd (f_Mo_breaksKey wA t (k : Int)) fun v9 => if v9 = 0 then (f_Dm_brokenIn_89 wA t (x : Int) (k : Int)) else (bl (wr ((x : Int) + 1)) fun n13 => f_Dm_brokenIn_89 wA t n13 (k : Int))) else some (Sum.inl ((x : Int), ((k + 1 : Nat) : Int))) := by
      unfold f_Dm_brokenIn_61B
      rw [if_neg (by omega), hopen, bnd_s]
      by_cases q : wA 4 k = 0 ∧ wA 5 k < wA 3 k
      · rw [if_pos q, if_neg z10, if_pos q]
      · rw [if_neg q, if_pos rfl, if_neg q, e89]
    have hB0 : f_Re_brokenIn_51B wB (M : Int) (x : Int) (k : Int) = if wA 3 k = 0 ∨ wA 4 k ≠ 0 then some (Sum.inl ((x : Int), ((k + 1 : Nat) : Int))) else (bnd (f_Re_isKeyBroken wB (M : Int) (k : Int)) fun v12 => if v12 = 0 then some (Sum.inl ((x : Int), ((k + 1 : Nat) : Int))) else some (Sum.inl (((x + 1 : Nat) : Int), ((k + 1 : Nat) : Int)))) := by
      unfold f_Re_brokenIn_51B
      rw [if_neg (by omega), gd_t ⟨by omega, by omega⟩, gd_t ⟨by omega, by omega⟩, Int.toNat_natCast, t2, t4, e90z, e901]
      by_cases q : wA 3 k = 0
      · rw [if_pos q, if_pos rfl, if_pos (Or.inl q)]
      · rw [if_neg q, if_neg z10]
        by_cases q2 : wA 4 k = 0
        · rw [if_pos q2, if_neg (fun z => z.elim q (fun z => z q2))]
        · rw [if_neg q2, if_pos (Or.inr q2)]
    obtain ⟨y, hy⟩ : ∃ y : Nat, wA 5 k = (y : Int) := ⟨(wA 5 k).toNat, by omega⟩
    by_cases q : wA 3 k = 0 ∨ wA 4 k ≠ 0
    · exact go x (by omega) (by rw [hA0, if_neg (by omega)]) (by rw [hB0, if_pos q])
    · have hkb := keyB_n (r := k) (y := y) b1 hk10 (by rw [t5]; exact hy) (by omega)
      have hd : 1 ≤ wA 3 k := by omega
      have h40 : wA 4 k = 0 := by omega
      have hky := (s6 hd).2.1 h40
      have hKK : KBr (AM N ρ c) (k : Int) y ↔ KBr (AM n ρ' c') (k : Int) y := by
        unfold KBr
        exact exists_congr fun a => exists_congr fun b => and_congr (hs _ _) (and_congr (hs _ _) Iff.rfl)
      rw [if_neg q, hkb, bnd_s, bi_c (KBr_par b1), bi_c hKK.symm] at hB0
      by_cases q2 : wA 5 k < wA 3 k
      · have hka := keyA_n hSch.1 a1 a2 hk10 hd hy (by omega)
        rw [if_pos ⟨h40, q2⟩, hka, bnd_s] at hA0
        by_cases qk : KBr (AM N ρ c) (k : Int) y
        · rw [bi_1 qk, if_neg z10] at hA0 hB0
          refine go (x + 1) (by omega) ?_ hB0
          rw [hA0, bl_s, wr_of (x := (x : Int) + 1) ⟨by omega, by omega⟩, e89]
          rfl
        · rw [bi_0 qk, if_pos rfl] at hA0 hB0
          exact go x (by omega) (by rw [hA0, e89]) hB0
      · have qk : ¬ KBr (AM N ρ c) (k : Int) y := KBr_full (w := wA) (fun s hs => (a1.2.2.2.2.1 s hs).2.2.1) a2 (by omega)
        rw [bi_0 qk, if_pos rfl] at hB0
        exact go x (by omega) (by rw [hA0, if_neg (fun z => q2 z.2)]) hB0
