/-! REFUSALS, call by call -/
theorem DecB.two {wB : World} (hd : DecB wB) {h : Nat} (hh : h < 2) : wB 3 h = 2 := by
  obtain ⟨d0, d1, -⟩ := hd
  have : h = 0 ∨ h = 1 := by omega
  rcases this with rfl | rfl
  · exact d0
  · exact d1
theorem nok {wB : World} (hd : DecB wB) {h so j : Nat} {b : Int} (hh : h < 2) (hj : j < 2) (hso : so ≤ 2) (hb : b < -9 ∨ 127 < b ∨ (so = 0 ∧ b < 0) ∨ (so = 1 ∧ b = -9)) : ¬ okC so (wB 3 h).toNat j b := by
  rw [hd.two hh]
  have e : ¬ (2 : Int).toNat ≤ j := by show ¬ 2 ≤ j; omega
  rw [okC_lt e]
  have : so = 0 ∨ so = 1 ∨ so = 2 := by omega
  rcases this with rfl | rfl | rfl
  · rw [if_neg (by decide), if_neg (by decide)]; omega
  · rw [if_pos rfl]; omega
  · rw [if_neg (by decide), if_pos rfl]; omega
theorem nok2 {wB : World} (hd : DecB wB) {h so : Nat} {b : Int} (hh : h < 2) (hb : b ≠ 0) : ¬ okC so (wB 3 h).toNat 2 b := by
  rw [hd.two hh, okC_ge (show (2 : Int).toNat ≤ 2 from Nat.le_refl 2)]
  exact hb
section SITES
variable {wB : World}
theorem s_dec1 {x5 : Int} (hx : x5 < 0 ∨ 10 ≤ x5) : ActQ (fun z m => f_L_declares z m x5 1 0 1) wB wB (-2000000001) :=
  ao_declares (e := 1) (by decide) (by decide) (fun wA _ => by
    unfold f_Dm_declare
    rcases hx with h | h
    · rw [if_pos h]
    · rw [if_neg (by omega), if_pos h])
theorem s_dec2 {k : Int} (hk : 4 ≤ k) : ActQ (fun z m => f_L_declares z m 9 1 k 1) wB wB (-2000000001) :=
  ao_declares (e := 1) (by decide) (by decide) (fun wA _ => by
    unfold f_Dm_declare
    rw [if_neg (by decide), if_neg (by decide), if_neg (by omega), if_neg (by omega)])
theorem s_dec3 {k : Int} (hk : 4 ≤ k) : ActQ (fun z m => f_L_declares z m 9 k 0 1) wB wB (-2000000002) :=
  ao_declares (e := 2) (by decide) (by decide) (fun wA _ => by
    unfold f_Dm_declare
    rw [if_neg (by decide), if_neg (by decide), if_neg (by decide), if_pos (by decide), if_neg (by omega), if_pos (by omega)])
theorem isKey_no {k : Int} (hk : 3 ≤ k) : f_Dm_isKey 2 0 k = some 0 := by
  unfold f_Dm_isKey f_Dm_isKey_18
  rw [if_pos rfl, if_neg (by omega), if_pos (by omega)]
theorem isKey_no2 : f_Dm_isKey 2 1 2 = some 0 := by decide
theorem isKey_1 : f_Dm_isKey 1 0 1 = some 1 := by decide
theorem s_dec4 {k : Int} (hk : 3 ≤ k) : ActQ (fun z m => f_L_declares z m 9 2 0 k) wB wB (-2000000002) :=
  ao_declares (e := 2) (by decide) (by decide) (fun wA _ => by
    unfold f_Dm_declare
    rw [if_neg (by decide), if_neg (by decide), if_neg (by decide), if_pos (by decide), if_neg (by decide), if_neg (by decide), isKey_no hk, bnd_s, if_pos rfl])
theorem s_dec5 : ActQ (fun z m => f_L_declares z m 9 2 1 2) wB wB (-2000000002) :=
  ao_declares (e := 2) (by decide) (by decide) (fun wA _ => by
    unfold f_Dm_declare
    rw [if_neg (by decide), if_neg (by decide), if_neg (by decide), if_pos (by decide), if_neg (by decide), if_neg (by decide), isKey_no2, bnd_s, if_pos rfl])

theorem s_dec6 (hd : DecB wB) {r : Nat} (hr : r < 6) : ActQ (fun z m => f_L_declares z m (r : Int) 1 0 1) wB wB (-2000000003) :=
  ao_declares (e := 3) (by decide) (by decide) (fun wA hA => by
    unfold f_Dm_declare
    rw [if_neg (by omega), if_neg (by omega), if_neg (by decide), if_pos (by decide), if_neg (by decide), if_neg (by decide), isKey_1, bnd_s, if_neg z10, isdecl hA (by omega) (hd.pos hr), bnd_s, if_neg z10])
theorem s_fac1 (hd : DecB wB) {x a b c d e f : Int} (hx : x < 0 ∨ 6 ≤ x) : ActQ (fun z m => f_L_facts z m x a b c d e f) wB wB (-2000000001) :=
  ao_facts (e := 1) (by decide) (by decide) (fun wA hA => by
    unfold f_Dm_fact
    rw [nodecl hA hd hx, bnd_s, if_pos rfl])
theorem s_fac2 (hd : DecB wB) {h : Nat} {b : Int} (hh : h < 2) (hb : b < -8 ∨ 127 < b) : ActQ (fun z m => f_L_facts z m (h : Int) b 0 0 1 0 0) wB wB (-2000000002) :=
  ao_facts (e := 2) (by decide) (by decide) (fun wA hA => by
    have e : f_Sc_permits wA (h : Int) 0 b 0 0 = some 0 := noperm (so := 0) (j := 0) hA (by omega) (by omega) (by omega) (nok (b := b) hd hh (by omega) (by omega) (by omega))
    unfold f_Dm_fact
    rw [isdecl hA (by omega) (hd.pos (by omega)), bnd_s, if_neg z10, e, bnd_s, if_pos rfl])
theorem s_fac3 (hd : DecB wB) {h : Nat} {b : Int} (hh : h < 2) (hb : b ≠ 0) : ActQ (fun z m => f_L_facts z m (h : Int) 0 0 b 1 0 0) wB wB (-2000000002) :=
  ao_facts (e := 2) (by decide) (by decide) (fun wA hA => by
    have e : f_Sc_permits wA (h : Int) 0 0 0 b = some 0 := noperm (so := 0) (j := 2) hA (by omega) (by omega) (by omega) (nok2 (b := b) hd hh hb)
    unfold f_Dm_fact
    rw [isdecl hA (by omega) (hd.pos (by omega)), bnd_s, if_neg z10, e, bnd_s, if_pos rfl])
theorem s_fac4 (hd : DecB wB) {h : Nat} {x5 x6 x7 : Int} (hh : h < 2) (hb : x5 < 1 ∨ 100 < x5 ∨ 4 ≤ x6 ∨ (0 ≤ x6 ∧ x7 < x6)) : ActQ (fun z m => f_L_facts z m (h : Int) 0 0 0 x5 x6 x7) wB wB (-2000000002) :=
  ao_facts (e := 2) (by decide) (by decide) (fun wA hA => by
    obtain ⟨v, e, -⟩ := perm_ex (so := 0) (x := 0) (y := 0) (z := 0) hA (show h < 10 by omega) (by omega)
    have e : f_Sc_permits wA (h : Int) 0 0 0 0 = some v := e
    unfold f_Dm_fact
    rw [isdecl hA (by omega) (hd.pos (by omega)), bnd_s, if_neg z10, e, bnd_s]
    by_cases q0 : v = 0
    · rw [if_pos q0]
    rw [if_neg q0]
    by_cases q1 : x5 < 1
    · rw [if_pos q1]
    rw [if_neg q1]
    by_cases q2 : 100 < x5
    · rw [if_pos q2]
    rw [if_neg q2]
    by_cases q3 : x6 < 0
    · rw [if_pos q3]
    rw [if_neg q3]
    by_cases q4 : 4 ≤ x6
    · rw [if_pos q4]
    rw [if_neg q4, if_pos (by omega)])
theorem s_fac5 (hd : DecB wB) (hn : 24 ≤ wB 1 7) : ActQ (fun z m => f_L_facts z m 2 1 0 0 1 0 0) wB wB (-2000000003) :=
  ao_facts (e := 3) (by decide) (by decide) (fun wA hA => by
    obtain ⟨v, e, -, e2⟩ := perm_ex (so := 0) (x := 1) (y := 0) (z := 0) hA (show 2 < 10 by omega) (by omega)
    have hv : v = 1 := e2.mpr (fun j hj => by
      rw [hd.2.2.1]
      have : j = 0 ∨ j = 1 ∨ j = 2 := by omega
      rcases this with rfl | rfl | rfl
      · rw [okC_l0 (by decide)]; exact ⟨by decide, by decide⟩
      · rw [okC_ge (by decide)]; rfl
      · rw [okC_ge (by decide)]; rfl)
    have e : f_Sc_permits wA 2 0 1 0 0 = some v := e
    have i2 : f_Sc_isDeclared wA 2 = some 1 := isdecl (r := 2) hA (by omega) (hd.pos (by omega))
    have h7 := (num_AB hA).1
    unfold f_Dm_fact
    rw [i2, bnd_s, if_neg z10, e, bnd_s, hv, if_neg z10, if_neg (by decide), if_neg (by decide), if_neg (by decide), if_neg (by decide), if_neg (by decide), if_pos (by decide), h7, if_neg (by omega)])
theorem s_dro1 (hd : DecB wB) {x : Int} (hx : x < 0 ∨ wB 1 7 ≤ x) : ActQ (fun z m => f_L_drops z m x) wB wB (-2000000001) :=
  ao_drops (e := 1) (by decide) (by decide) (fun wA hA => by
    have h7 := (num_AB hA).1
    unfold f_Dm_drop
    rcases hx with h | h
    · rw [if_pos h]
    · by_cases q : x < 0
      · rw [if_pos q]
      · rw [if_neg q, h7, if_neg (by omega)])
theorem s_hea1 (hd : DecB wB) {x a b c : Int} (hx : x < 0 ∨ 6 ≤ x) : ActQ (fun z m => f_L_heads z m x a b c) wB wB (-2000000001) :=
  ao_heads (e := 1) (by decide) (by decide) (fun wA hA => by
    unfold f_Dm_head
    rw [nodecl hA hd hx, bnd_s, if_pos rfl])
theorem s_hea2 (hd : DecB wB) {h : Nat} {b : Int} (hh : h < 2) (hb : b < -8 ∨ 127 < b) : ActQ (fun z m => f_L_heads z m (h : Int) b 0 0) wB wB (-2000000002) :=
  ao_heads (e := 2) (by decide) (by decide) (fun wA hA => by
    have e : f_Sc_permits wA (h : Int) 1 b 0 0 = some 0 := noperm (so := 1) (j := 0) hA (by omega) (by omega) (by omega) (nok (b := b) hd hh (by omega) (by omega) (by omega))
    unfold f_Dm_head
    rw [isdecl hA (by omega) (hd.pos (by omega)), bnd_s, if_neg z10, e, bnd_s, if_pos rfl])
theorem s_hea3 (hd : DecB wB) : ActQ (fun z m => f_L_heads z m 2 (-1) 1 0) wB wB (-2000000002) :=
  ao_heads (e := 2) (by decide) (by decide) (fun wA hA => by
    have e : f_Sc_permits wA 2 1 (-1) 1 0 = some 0 := noperm (r := 2) (so := 1) (j := 1) hA (by omega) (by omega) (by omega) (by rw [hd.2.2.1, okC_ge (by decide)]; decide)
    have i2 : f_Sc_isDeclared wA 2 = some 1 := isdecl (r := 2) hA (by omega) (hd.pos (by omega))
    unfold f_Dm_head
    rw [i2, bnd_s, if_neg z10, e, bnd_s, if_pos rfl])
theorem s_ato1 (hd : DecB wB) {x p a b c : Int} (hx : x < 0 ∨ 6 ≤ x) : ActQ (fun z m => f_L_atoms z m x p a b c) wB wB (-2000000001) :=
  ao_atoms (e := 1) (by decide) (by decide) (fun wA hA => by
    unfold f_Dm_atom
    rw [nodecl hA hd hx, bnd_s, if_pos rfl])
theorem s_ato2 (hd : DecB wB) {h : Nat} {b p : Int} (hh : h < 2) (hb : b < -8 ∨ 127 < b) : ActQ (fun z m => f_L_atoms z m (h : Int) p 0 b 0) wB wB (-2000000002) :=
  ao_atoms (e := 2) (by decide) (by decide) (fun wA hA => by
    have e : f_Sc_permits wA (h : Int) 1 0 b 0 = some 0 := noperm (so := 1) (j := 1) hA (by omega) (by omega) (by omega) (nok (b := b) hd hh (by omega) (by omega) (by omega))
    unfold f_Dm_atom
    rw [isdecl hA (by omega) (hd.pos (by omega)), bnd_s, if_neg z10, e, bnd_s, if_pos rfl])
theorem s_ato3 (hd : DecB wB) {p : Int} (hn : 5 ≤ wB 16 18 ∨ (p ≠ 0 ∧ 3 ≤ hB wB)) : ActQ (fun z m => f_L_atoms z m 2 p (if p = 0 then 0 else 1) 0 0) wB wB (-2000000003) :=
  ao_atoms (e := 3) (by decide) (by decide) (fun wA hA => by
    obtain ⟨v, e, -, e2⟩ := perm_ex (so := 1) (x := (if p = 0 then 0 else 1)) (y := 0) (z := 0) hA (show 2 < 10 by omega) (by omega)
    have hv : v = 1 := e2.mpr (fun j hj => by
      rw [hd.2.2.1]
      have : j = 0 ∨ j = 1 ∨ j = 2 := by omega
      rcases this with rfl | rfl | rfl
      · rw [okC_l1 (by decide)]
        show -8 ≤ (if p = 0 then (0 : Int) else 1) ∧ (if p = 0 then (0 : Int) else 1) ≤ 127
        split <;> exact ⟨by decide, by decide⟩
      · rw [okC_ge (by decide)]; rfl
      · rw [okC_ge (by decide)]; rfl)
    have e : f_Sc_permits wA 2 1 (if p = 0 then 0 else 1) 0 0 = some v := e
    have i2 : f_Sc_isDeclared wA 2 = some 1 := isdecl (r := 2) hA (by omega) (hd.pos (by omega))
    obtain ⟨-, -, h94, hh, -⟩ := num_AB hA
    obtain ⟨-, -, r3, -⟩ := num_rng hA
    unfold f_Dm_atom
    rw [i2, bnd_s, if_neg z10, e, bnd_s, hv, if_neg z10, h94]
    by_cases q5 : 5 ≤ wB 16 18
    · rw [if_pos q5]
    · rcases hn with q | ⟨q, q3⟩
      · exact absurd q q5
      · obtain ⟨n, hn⟩ : ∃ n : Nat, wB 16 18 = (n : Int) := ⟨(wB 16 18).toNat, by omega⟩
        have hho : hold wA = cnt (fun p => decide ((RB wA 94).fm p = 0)) n := by unfold hold; rw [h94, hn, Int.toNat_natCast]; rfl
        rw [if_neg q5, if_neg q, holding_n (n := n) (by rw [h94]; exact hn) (by omega), bnd_s, ← hho, hh, if_neg (by omega)])
theorem isTerm_bad {b : Int} (hb : b < -8 ∨ 127 < b) : f_Dm_isTerm b = some 0 := by rw [isTerm_n, if_neg (by omega)]
theorem isTerm_0 : f_Dm_isTerm 0 = some 1 := by rw [isTerm_n, if_pos (by omega)]
theorem s_com1 (hd : DecB wB) {k : Int} (hk : 4 ≤ k) : ActQ (fun z m => f_L_compares z m k 0 0) wB wB (-2000000001) :=
  ao_compares (e := 1) (by decide) (by decide) (fun wA _ => by
    unfold f_Dm_compare
    rw [if_neg (by omega), if_neg (by omega)])
theorem s_com2 (hd : DecB wB) {k b : Int} (hk : 0 ≤ k ∧ k ≤ 3) (hb : b < -8 ∨ 127 < b) : ActQ (fun z m => f_L_compares z m k b 0) wB wB (-2000000002) :=
  ao_compares (e := 2) (by decide) (by decide) (fun wA _ => by
    unfold f_Dm_compare
    rw [if_neg (by omega), if_pos (by omega), isTerm_bad hb, bnd_s, if_pos rfl])
theorem s_com3 (hd : DecB wB) (hn : 5 ≤ wB 16 18) : ActQ (fun z m => f_L_compares z m 0 0 0) wB wB (-2000000003) :=
  ao_compares (e := 3) (by decide) (by decide) (fun wA hA => by
    have h94 := (num_AB hA).2.2.1
    unfold f_Dm_compare
    rw [if_neg (by decide), if_pos (by decide), isTerm_0, bnd_s, if_neg z10, bnd_s, if_neg z10, h94, if_neg (by omega)])
theorem s_add1 (hd : DecB wB) {b : Int} (hb : b < -8 ∨ 127 < b) : ActQ (fun z m => f_L_adds z m 0 b 0) wB wB (-2000000002) :=
  ao_adds (e := 2) (by decide) (by decide) (fun wA _ => by
    unfold f_Dm_add
    rw [isTerm_0, bnd_s, if_neg z10, isTerm_bad hb, bnd_s, if_pos rfl])
theorem s_add2 (hd : DecB wB) (hn : 5 ≤ wB 16 18) : ActQ (fun z m => f_L_adds z m 0 0 0) wB wB (-2000000003) :=
  ao_adds (e := 3) (by decide) (by decide) (fun wA hA => by
    have h94 := (num_AB hA).2.2.1
    unfold f_Dm_add
    rw [isTerm_0, bnd_s, if_neg z10, bnd_s, if_neg z10, bnd_s, if_neg z10, h94, if_neg (by omega)])
theorem s_rem1 (hd : DecB wB) {x : Int} (hx : x < 0 ∨ wB 1 14 ≤ x) : ActQ (fun z m => f_L_removes z m x) wB wB (-2000000001) :=
  ao_removes (e := 1) (by decide) (by decide) (fun wA hA => by
    have h14 := (num_AB hA).2.1
    unfold f_Dm_remove f_Pr_hasRule
    by_cases q : x < 0
    · rw [if_pos q, bnd_s, if_pos rfl]
    · rw [if_neg q, h14, if_pos (by omega), bnd_s, if_pos rfl])
theorem s_den1 (hd : DecB wB) (hn : wB 16 18 ≤ 0) : ActQ (fun z m => f_L_denies z m) wB wB (-2000000002) :=
  ao_denies (e := 2) (by decide) (by decide) (fun wA hA => by
    have h94 := (num_AB hA).2.2.1
    have r3 := (num_rng hA).2.2.1
    unfold f_Dm_deny
    rw [h94, if_pos (by omega)])
theorem s_pas1 (hd : DecB wB) (hn : 3 ≤ wB 1 1) : ActQ (fun z m => f_L_passes z m) wB wB (-2000000003) :=
  ao_passes (e := 3) (by decide) (by decide) (fun wA hA => by
    have h94 := (num_AB hA).2.2.2.2.1
    unfold f_Dm_pass
    rw [h94, if_neg (by omega)])
end SITES
