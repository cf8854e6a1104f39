/-! ACTS on the draft, by the class's functions; the numbers by the picture -/
theorem hold_psh {w : World} {n : Nat} {k s x y z : Int} (hn : w 94 0 = (n : Int)) : hold (psh w 94 n k s x y z) = hold w + (if k = 0 then 1 else 0) := by
  have e0 : psh w 94 n k s x y z 94 0 = ((n + 1 : Nat) : Int) := by unfold psh; simp [up]
  have e1 : ∀ p, p ≠ n → psh w 94 n k s x y z 95 p = w 95 p := fun p hp => by unfold psh stT; simp [up, hp]
  have e2 : psh w 94 n k s x y z 95 n = k := by unfold psh stT; simp [up]
  unfold hold
  rw [e0, hn, Int.toNat_natCast, Int.toNat_natCast]
  show cnt _ n + _ = _
  rw [cnt_congr (P := fun p => decide (psh w 94 n k s x y z 95 p = 0)) (Q := fun p => decide (w 95 p = 0)) (n := n) (fun i hi => by show decide (psh w 94 n k s x y z 95 i = 0) = decide (w 95 i = 0); rw [e1 i (by omega)])]
  congr 1
  show (if decide (psh w 94 n k s x y z 95 n = 0) = true then 1 else 0) = _
  rw [e2]
  by_cases q : k = 0
  · rw [if_pos q, if_pos (by simpa using q)]
  · rw [if_neg q, if_neg (by simpa using q)]
theorem ky_psh {w : World} {n : Nat} {k s x y z : Int} : Ky w (psh w 94 n k s x y z) 0 0 0 := by
  refine ⟨?_, ?_, ?_, ?_⟩
  · unfold psh stT; simp [up]
  · unfold psh stT; simp [up]
  · unfold psh stT; simp [up]
  · funext j; unfold psh stT; simp [up]
theorem Ky.same {w w' : World} (h : ∀ c, c ≠ 94 → c ≠ 96 → c ≠ 97 → w' c = w c) : Ky w w' 0 0 0 := ⟨by rw [h 7 (by decide) (by decide) (by decide), Int.add_zero], by rw [h 14 (by decide) (by decide) (by decide), Int.add_zero], by rw [h 1 (by decide) (by decide) (by decide), Int.add_zero], h 3 (by decide) (by decide) (by decide)⟩
theorem Dk.hold {wA w' : World} (h : Dk wA w') : hold w' = hold wA := by unfold _root_.Jvm.Pilot.CDatalogmillLaw_law_r3490_62b6eb.hold; rw [h.1, h.2]
theorem kp_setHead {w w' : World} {x1 x2 x3 x4 : Int} (h : f_Bo_setHead w 94 x1 x2 x3 x4 = some w') : ∀ c k, ¬ (c = 94 ∧ k = 1) → c ≠ 97 → w' c k = w c k := by
  intro c k h1 h2
  unfold f_Bo_setHead at h
  have h := bl_out h
  have e5 : f_Bo_setTerms (up w 94 1 x1) 94 5 x2 x3 x4 = some (stT (up w 94 1 x1) 94 5 x2 x3 x4) := setTerms_n (p := 5) (by omega)
  rw [e5, bnd_s] at h
  have h := some_inj h
  rw [h]
  unfold stT up
  rw [if_neg (fun z => h2 z.1), if_neg (fun z => h2 z.1), if_neg (fun z => h2 z.1), if_neg h1]
theorem kp_head {w w' : World} {e : Nat} {x1 x2 x3 x4 v : Int} (h : f_Dm_head w x1 x2 x3 x4 = some (w', e, v)) : Ky w w' 0 0 0 ∧ Dk w w' := by
  unfold f_Dm_head at h
  obtain ⟨a, -, h⟩ := bnd_some h
  by_cases q : a = 0
  · rw [if_pos q] at h
    cases some_inj h
    exact ⟨Ky.refl, Dk.refl⟩
  · rw [if_neg q] at h
    obtain ⟨b, -, h⟩ := bnd_some h
    by_cases q2 : b = 0
    · rw [if_pos q2] at h
      cases some_inj h
      exact ⟨Ky.refl, Dk.refl⟩
    · rw [if_neg q2] at h
      obtain ⟨u, hu, h⟩ := bnd_some h
      cases some_inj h
      have hf := kp_setHead hu
      refine ⟨Ky.same (fun c h1 h2 h3 => funext fun k => hf c k (fun z => h1 z.1) h3), hf 94 0 (fun z => absurd z.2 (by decide)) (by decide), funext fun k => hf 95 k (fun z => absurd z.1 (by decide)) (by decide)⟩
theorem kp_clear {w w' : World} {v : Int} (h : f_Dm_clear w = some (w', v)) : Ky w w' 0 0 0 ∧ w' 94 0 = 0 := by
  unfold f_Dm_clear at h
  have h := bl_out h
  obtain ⟨u, hu, h⟩ := bnd_some h
  cases some_inj h
  unfold f_Bo_empty at hu
  have hu := bl_out hu
  obtain ⟨u2, hu2, hu⟩ := bnd_some hu
  cases some_inj hu
  have hf := kp_setHead hu2
  refine ⟨Ky.same (fun c h1 h2 h3 => funext fun k => ?_), ?_⟩
  · rw [hf c k (fun z => h1 z.1) h3]
    simp [up, h1]
  · rw [hf 94 0 (fun z => absurd z.2 (by decide)) (by decide)]
    simp [up]
def Pu (w w' : World) (k : Nat) (v : Int) : Prop := w' 94 0 = w 94 0 + 1 ∧ hold w' = hold w + k ∧ 0 < v
theorem pu_psh {w : World} {n : Nat} {k s x y z : Int} (hn : w 94 0 = (n : Int)) : Pu w (psh w 94 n k s x y z) (if k = 0 then 1 else 0) ((n : Int) + 1) := ⟨by rw [hn]; unfold psh; simp [up], hold_psh hn, by omega⟩
theorem kp_compare {w w' : World} {n e : Nat} {x1 x2 x3 v : Int} (hn : w 94 0 = (n : Int)) (h : f_Dm_compare w x1 x2 x3 = some (w', e, v)) : Ky w w' 0 0 0 ∧ (e = 0 → Pu w w' 0 v) ∧ (e ≠ 0 → Dk w w') := by
  unfold f_Dm_compare at h
  have stop : ∀ {k : Nat}, k ≠ 0 → some (w, k, (0 : Int)) = some (w', e, v) → Ky w w' 0 0 0 ∧ (e = 0 → Pu w w' 0 v) ∧ (e ≠ 0 → Dk w w') := fun hk h => by
    cases some_inj h
    exact ⟨Ky.refl, fun z => absurd z hk, fun _ => Dk.refl⟩
  by_cases q1 : x1 < 0
  · rw [if_pos q1] at h
    exact stop (by decide) h
  rw [if_neg q1] at h
  by_cases q2 : x1 ≤ 3
  · rw [if_pos q2] at h
    obtain ⟨a, -, h⟩ := bnd_some h
    by_cases q : a = 0
    · rw [if_pos q] at h
      exact stop (by decide) h
    rw [if_neg q] at h
    obtain ⟨b, -, h⟩ := bnd_some h
    by_cases q : b = 0
    · rw [if_pos q] at h
      exact stop (by decide) h
    rw [if_neg q] at h
    by_cases q5 : w 94 0 < 5
    · rw [if_pos q5, push_n hn (by omega), bnd_s] at h
      cases some_inj h
      exact ⟨ky_psh, fun _ => by have := pu_psh (k := 2) (s := x1) (x := x2) (y := x3) (z := 0) hn; rwa [if_neg (by decide)] at this, fun z => absurd rfl z⟩
    · rw [if_neg q5] at h
      exact stop (by decide) h
  · rw [if_neg q2] at h
    exact stop (by decide) h
theorem kp_add {w w' : World} {n e : Nat} {x1 x2 x3 v : Int} (hn : w 94 0 = (n : Int)) (h : f_Dm_add w x1 x2 x3 = some (w', e, v)) : Ky w w' 0 0 0 ∧ (e = 0 → Pu w w' 0 v) ∧ (e ≠ 0 → Dk w w') := by
  unfold f_Dm_add at h
  have stop : ∀ {k : Nat}, k ≠ 0 → some (w, k, (0 : Int)) = some (w', e, v) → Ky w w' 0 0 0 ∧ (e = 0 → Pu w w' 0 v) ∧ (e ≠ 0 → Dk w w') := fun hk h => by
    cases some_inj h
    exact ⟨Ky.refl, fun z => absurd z hk, fun _ => Dk.refl⟩
  obtain ⟨a, -, h⟩ := bnd_some h
  by_cases q : a = 0
  · rw [if_pos q] at h
    exact stop (by decide) h
  rw [if_neg q] at h
  obtain ⟨b, -, h⟩ := bnd_some h
  by_cases q : b = 0
  · rw [if_pos q] at h
    exact stop (by decide) h
  rw [if_neg q] at h
  obtain ⟨c, -, h⟩ := bnd_some h
  by_cases q : c = 0
  · rw [if_pos q] at h
    exact stop (by decide) h
  rw [if_neg q] at h
  by_cases q5 : w 94 0 < 5
  · rw [if_pos q5, push_n hn (by omega), bnd_s] at h
    cases some_inj h
    exact ⟨ky_psh, fun _ => by have := pu_psh (k := 3) (s := 0) (x := x1) (y := x2) (z := x3) hn; rwa [if_neg (by decide)] at this, fun z => absurd rfl z⟩
  · rw [if_neg q5] at h
    exact stop (by decide) h
theorem kp_atom {w w' : World} {n e : Nat} {x1 x2 x3 x4 x5 v : Int} (hn : w 94 0 = (n : Int)) (h : f_Dm_atom w x1 x2 x3 x4 x5 = some (w', e, v)) : Ky w w' 0 0 0 ∧ (e = 0 → Pu w w' (if x2 = 0 then 0 else 1) v) ∧ (e ≠ 0 → Dk w w') := by
  unfold f_Dm_atom at h
  have stop : ∀ {k : Nat}, k ≠ 0 → some (w, k, (0 : Int)) = some (w', e, v) → Ky w w' 0 0 0 ∧ (e = 0 → Pu w w' (if x2 = 0 then 0 else 1) v) ∧ (e ≠ 0 → Dk w w') := fun hk h => by
    cases some_inj h
    exact ⟨Ky.refl, fun z => absurd z hk, fun _ => Dk.refl⟩
  have fin : ∀ h5 : w 94 0 < 5, f_Dm_atom_84 w x1 x2 x3 x4 x5 = some (w', e, v) → Ky w w' 0 0 0 ∧ (e = 0 → Pu w w' (if x2 = 0 then 0 else 1) v) ∧ (e ≠ 0 → Dk w w') := fun h5 h => by
    unfold f_Dm_atom_84 f_Dm_atom_97 at h
    by_cases q : x2 = 0
    · rw [if_pos q, push_n hn (by omega), bnd_s] at h
      cases some_inj h
      exact ⟨ky_psh, fun _ => by have := pu_psh (k := 1) (s := x1) (x := x3) (y := x4) (z := x5) hn; rw [if_neg (by decide)] at this; rwa [if_pos q], fun z => absurd rfl z⟩
    · rw [if_neg q, push_n hn (by omega), bnd_s] at h
      cases some_inj h
      exact ⟨ky_psh, fun _ => by have := pu_psh (k := 0) (s := x1) (x := x3) (y := x4) (z := x5) hn; rw [if_pos rfl] at this; rwa [if_neg q], fun z => absurd rfl z⟩
  obtain ⟨a, -, h⟩ := bnd_some h
  by_cases q : a = 0
  · rw [if_pos q] at h
    exact stop (by decide) h
  rw [if_neg q] at h
  obtain ⟨b, -, h⟩ := bnd_some h
  by_cases q : b = 0
  · rw [if_pos q] at h
    exact stop (by decide) h
  rw [if_neg q] at h
  by_cases q5 : 5 ≤ w 94 0
  · rw [if_pos q5] at h
    exact stop (by decide) h
  rw [if_neg q5] at h
  by_cases q : x2 = 0
  · rw [if_pos q] at h
    exact fin (by omega) h
  rw [if_neg q] at h
  obtain ⟨c, -, h⟩ := bnd_some h
  by_cases q3 : c < 3
  · rw [if_pos q3] at h
    exact fin (by omega) h
  · rw [if_neg q3] at h
    exact stop (by decide) h
/-- the numbers, by the picture -/
def hB (wB : World) : Nat := cnt (fun p => decide (wB 17 (5 * 18 + p) = 0)) (wB 16 18).toNat
theorem num_AB {wA wB : World} (h : II wA wB) : wA 7 0 = wB 1 7 ∧ wA 14 4 = wB 1 14 ∧ wA 94 0 = wB 16 18 ∧ hold wA = hB wB ∧ wA 1 12 = wB 1 1 ∧ ∀ r : Nat, r < 10 → wA 3 r = wB 3 r := by
  obtain ⟨nF, m, d, now, top, L, g, hI⟩ := h
  obtain ⟨n, hn5, hnA, hnB, hlA, hlB⟩ := drf_n hI
  obtain ⟨i1, i2, i3, i4, i5, i6, -⟩ := hI
  refine ⟨i2.1.1.trans i2.2.1.1.symm, i3.1.2.1.trans i3.2.1.1.symm, hnA.trans hnB.symm, ?_, i6.1.trans i6.2.1.symm, fun r hr => (i1.2 r hr).1.symm⟩
  unfold hold hB
  rw [hnA, hnB, Int.toNat_natCast]
  exact (cnt_congr (fun p hp => by
    have := (i5.2.2.1.2 p (by rw [hlA]; exact hp)).1
    have e : wB 17 (5 * 18 + p) = wA 95 p := this
    show decide (wA 95 p = 0) = decide (wB 17 (5 * 18 + p) = 0)
    rw [e]))
theorem num_rng {wA wB : World} (h : II wA wB) : (0 ≤ wB 1 7 ∧ wB 1 7 ≤ 24) ∧ (0 ≤ wB 1 14 ∧ wB 1 14 ≤ 12) ∧ (0 ≤ wB 16 18 ∧ wB 16 18 ≤ 5) ∧ hB wB ≤ 3 ∧ (0 ≤ wB 1 1 ∧ wB 1 1 ≤ 3) := by
  obtain ⟨nF, m, d, now, top, L, g, hI⟩ := h
  obtain ⟨n, hn5, hnA, hnB, hlA, hlB⟩ := drf_n hI
  have hh := num_AB ⟨nF, m, d, now, top, L, g, hI⟩
  obtain ⟨i1, i2, i3, i4, i5, i6, -⟩ := hI
  have h24 := i2.1.2.1
  have h12 := i3.1.2.2.1
  refine ⟨by rw [i2.2.1.1]; omega, by rw [i3.2.1.1]; omega, by rw [hnB]; omega, ?_, by rw [i6.2.1]; omega⟩
  rw [← hh.2.2.2.1]
  have := i5.2.2.2.1
  unfold Few at this
  rw [hlA] at this
  unfold hold
  rw [hnA, Int.toNat_natCast]
  exact this
/-- the law's row of numbers -/
def NT (nn : Nat → Int) (wB : World) : Prop := nn 0 = wB 1 7 ∧ nn 1 = wB 1 14 ∧ nn 3 = wB 16 18 ∧ nn 4 = (hB wB : Int) ∧ nn 5 = wB 1 1
def DecB (wB : World) : Prop := wB 3 0 = 2 ∧ wB 3 1 = 2 ∧ wB 3 2 = 1 ∧ wB 3 3 = 2 ∧ wB 3 4 = 2 ∧ wB 3 5 = 3 ∧ ∀ r : Nat, 6 ≤ r → r < 10 → wB 3 r = 0
theorem DecB.of {wA w' wB wB' : World} (hd : DecB wB) (h : II wA wB) (h' : II w' wB') (h3 : w' 3 = wA 3) : DecB wB' := by
  have e : ∀ r : Nat, r < 10 → wB' 3 r = wB 3 r := fun r hr => by rw [← (num_AB h).2.2.2.2.2 r hr, ← (num_AB h').2.2.2.2.2 r hr, h3]
  obtain ⟨d0, d1, d2, d3, d4, d5, d6⟩ := hd
  exact ⟨(e 0 (by omega)).trans d0, (e 1 (by omega)).trans d1, (e 2 (by omega)).trans d2, (e 3 (by omega)).trans d3, (e 4 (by omega)).trans d4, (e 5 (by omega)).trans d5, fun r h1 h2 => (e r h2).trans (d6 r h1 h2)⟩
theorem ky_B {wA w' wB wB' : World} {a b c : Int} (h : II wA wB) (h' : II w' wB') (hk : Ky wA w' a b c) : wB' 1 7 = wB 1 7 + a ∧ wB' 1 14 = wB 1 14 + b ∧ wB' 1 1 = wB 1 1 + c := by
  obtain ⟨a1, a2, a3, a4, a5, -⟩ := num_AB h
  obtain ⟨b1, b2, b3, b4, b5, -⟩ := num_AB h'
  exact ⟨by rw [← a1, ← b1, hk.1], by rw [← a2, ← b2, hk.2.1], by rw [← a5, ← b5, hk.2.2.1]⟩
theorem dk_B {wA w' wB wB' : World} (h : II wA wB) (h' : II w' wB') (hk : Dk wA w') : wB' 16 18 = wB 16 18 ∧ hB wB' = hB wB := by
  obtain ⟨a1, a2, a3, a4, a5, -⟩ := num_AB h
  obtain ⟨b1, b2, b3, b4, b5, -⟩ := num_AB h'
  exact ⟨by rw [← a3, ← b3, hk.1], by rw [← a4, ← b4, hk.hold]⟩
