/-! THE LAW over one picture: what the questions answer -/
theorem holds_ok {wA wB : World} (h0 : II wA wB) {r : Nat} {x y z : Int} (hr : r < 10) (hdr : 1 ≤ wB 3 r) (h : f_Dm_holds wA (r : Int) x y z = some (wA, 0, 1)) : ∀ j, j < 3 → okC 0 (wB 3 r).toNat j (pick x y z j) := by
  refine Classical.byContradiction fun hno => ?_
  obtain ⟨j, hj⟩ := Classical.not_forall.mp hno
  obtain ⟨hj3, hk⟩ := Classical.not_imp.mp hj
  have hdec : f_Sc_isDeclared wA (r : Int) = some 1 := isdecl h0 hr hdr
  obtain ⟨t, ht, hkd⟩ := pres_ex h0
  have hin := noin (t := t) h0 hr hj3 hk
  unfold f_Dm_holds at h
  rw [hdec, bnd_s, if_neg z10, ht, bnd_s, gd_t hkd, hin, bnd_s, gd_t (Or.inl rfl)] at h
  have e : (1 : Int) = 0 := congrArg (fun q : World × Nat × Int => q.2.2) (some_inj h)
  exact absurd e (by decide)
section VAL
variable {wA wB : World} {T : Nat → List Nat}
theorem v_size (h0 : II wA wB) (hT : Tup wA T) {r : Nat} (hr : r < 6) : ActQ (fun z m => f_L_size z m (r : Int)) wB wB ((T r).length : Int) :=
  av_size h0 (Rnn (by omega)) (hT.2.2.1 r hr)
theorem len_T (hT : Tup wA T) {r : Nat} (hr : r < 6) : (T r).length ≤ 48 := by
  have h := hT.2.1
  have : r = 0 ∨ r = 1 ∨ r = 2 ∨ r = 3 ∨ r = 4 ∨ r = 5 := by omega
  rcases this with rfl | rfl | rfl | rfl | rfl | rfl <;> omega
theorem v_at (h0 : II wA wB) (hT : Tup wA T) {r p : Nat} (hr : r < 6) (hp : p < (T r).length) : ActQ (fun z m => f_L_at z m (r : Int) (p : Int)) wB wB ((T r)[p] : Int) :=
  av_at h0 (Rnn (by omega)) (Rnn (by have := len_T hT hr; omega)) (hT.2.2.2.1 r hr p hp).1
theorem v_atn (h0 : II wA wB) (hT : Tup wA T) {r : Nat} {k : Int} (hr : r < 6) (rk : R32 k) (hk : k < 0 ∨ ((T r).length : Int) ≤ k) : ActQ (fun z m => f_L_at z m (r : Int) k) wB wB (-2000000001) :=
  av_at h0 (Rnn (by omega)) rk (hT.2.2.2.2 r hr k hk)
theorem cols_T {n : Nat} (hn : n < 2097152) : idiv (n : Int) 16384 = ((clm n 0 : Nat) : Int) ∧ irem (idiv (n : Int) 128) 128 = ((clm n 1 : Nat) : Int) ∧ irem (n : Int) 128 = ((clm n 2 : Nat) : Int) := by
  have e1 := idiv_n (x := (n : Int)) (c := 16384) (by omega) (by omega) (by decide) (by decide)
  have e2 := idiv_n (x := (n : Int)) (c := 128) (by omega) (by omega) (by decide) (by decide)
  have e3 := irem_n (x := (n : Int)) (c := 128) (by omega) (by omega) (by decide) (by decide)
  have e4 := irem_n (x := (n : Int) / 128) (c := 128) (by omega) (by omega) (by decide) (by decide)
  rw [e1, e2, e3, e4]
  show (n : Int) / 16384 = ((n / 16384 % 128 : Nat) : Int) ∧ (n : Int) / 128 % 128 = ((n / 128 % 128 : Nat) : Int) ∧ (n : Int) % 128 = ((n % 128 : Nat) : Int)
  omega
theorem v_whyT (h0 : II wA wB) (hd : DecB wB) (hT : Tup wA T) {r p : Nat} (hr : r < 6) (hp : p < (T r).length) : ActQ (fun z m => f_L_whyNot z m (r : Int) ((clm (T r)[p] 0 : Nat) : Int) ((clm (T r)[p] 1 : Nat) : Int) ((clm (T r)[p] 2 : Nat) : Int)) wB wB (-2000000003) := by
  have hh := (hT.2.2.2.1 r hr p hp).2.2
  have c0 : clm (T r)[p] 0 < 128 := clm_lt
  have c1 : clm (T r)[p] 1 < 128 := clm_lt
  have c2 : clm (T r)[p] 2 < 128 := clm_lt
  rcases why_rng h0 (show r < 10 by omega) (hd.pos hr) (holds_ok h0 (by omega) (hd.pos hr) hh) with ⟨-, z⟩ | ⟨z, -⟩
  · exact av_whyNot h0 (Rnn (by omega)) (Rnn (by omega)) (Rnn (by omega)) (Rnn (by omega)) z
  · have e : (0 : Int) = 1 := congrArg (fun q : World × Nat × Int => q.2.2) (some_inj (hh.symm.trans z))
    exact absurd e (by decide)
end VAL
theorem s_ato4 {wB : World} (hd : DecB wB) (h3 : 3 ≤ hB wB) : ActQ (fun z m => f_L_atoms z m 2 1 0 0 0) wB wB (-2000000003) :=
  ao_atoms (e := 3) (by decide) (by decide) (fun wA hA => by
    obtain ⟨v, e, -, e2⟩ := perm_ex (so := 1) (x := 0) (y := 0) (z := 0) hA (show 2 < 10 by omega) (by omega)
    have hv : v = 1 := e2.mpr (fun j hj => by
      rw [hd.2.2.1]
      have : j = 0 ∨ j = 1 ∨ j = 2 := by omega
      rcases this with rfl | rfl | rfl
      · rw [okC_l1 (by decide)]
        exact ⟨by decide, by decide⟩
      · rw [okC_ge (by decide)]; rfl
      · rw [okC_ge (by decide)]; rfl)
    have e : f_Sc_permits wA 2 1 0 0 0 = some v := e
    have i2 : f_Sc_isDeclared wA 2 = some 1 := isdecl (r := 2) hA (by omega) (hd.pos (by omega))
    obtain ⟨-, -, h94, hh, -⟩ := num_AB hA
    obtain ⟨-, -, r3, -⟩ := num_rng hA
    unfold f_Dm_atom
    rw [i2, bnd_s, if_neg z10, e, bnd_s, hv, if_neg z10, h94]
    by_cases q5 : 5 ≤ wB 16 18
    · rw [if_pos q5]
    · obtain ⟨n, hn⟩ : ∃ n : Nat, wB 16 18 = (n : Int) := ⟨(wB 16 18).toNat, by omega⟩
      have hho : hold wA = cnt (fun p => decide ((RB wA 94).fm p = 0)) n := by unfold hold; rw [h94, hn, Int.toNat_natCast]; rfl
      rw [if_neg q5, if_neg z10, holding_n (n := n) (by rw [h94]; exact hn) (by omega), bnd_s, ← hho, hh, if_neg (by omega)])
