/-! THE LAW over one picture: act -/
theorem irem_R {x : Int} {c : Int} (hx : 0 ≤ x) (hx2 : x < 2147483648) (hc : 0 < c) (hc2 : c < 2147483648) : R32 (irem x c) := by
  have h1 := Int.emod_nonneg x (show c ≠ 0 by omega)
  have h2 := Int.emod_lt_of_pos x hc
  rw [irem_n hx hx2 hc hc2]
  exact ⟨by omega, by omega⟩
theorem term_n {x : Int} (hx : 0 ≤ x) (hx2 : x < 2147483648) : ∃ v, R32 v ∧ ∀ z, f_L_term z x = some (z, v) := by
  have e1 : irem x 5 = x % 5 := irem_n hx hx2 (by decide) (by decide)
  have e2 : idiv x 5 = x / 5 := idiv_n hx hx2 (by decide) (by decide)
  have e3 : irem (x / 5) 4 = x / 5 % 4 := irem_n (by omega) (by omega) (by decide) (by decide)
  have e4 : irem (x % 5) 3 = x % 5 % 3 := irem_n (by omega) (by omega) (by decide) (by decide)
  by_cases q : 4 ≤ x % 5
  · refine ⟨x / 5 % 4, ⟨by omega, by omega⟩, fun z => ?_⟩
    unfold f_L_term
    rw [e1, if_pos q, e2, e3]
  · refine ⟨wr (-1 - x % 5 % 3), R_wr _, fun z => ?_⟩
    unfold f_L_term
    rw [e1, if_neg q, e4]
section ACL
variable {nn : Nat → Int} {wA wB : World} {k n : Nat}
theorem dv {c : Int} (hn : n < 2147483648) (hc : 0 < c) (hc2 : c < 2147483648) : 0 ≤ idiv (n : Int) c ∧ idiv (n : Int) c < 2147483648 := by
  rw [idiv_n (by omega) (by omega) hc hc2]
  have h1 : 0 ≤ (n : Int) / c := Int.ediv_nonneg (by omega) (by omega)
  have h2 : (n : Int) / c ≤ n := Int.ediv_le_self c (by omega)
  omega
theorem A_fact (h0 : II wA wB) (hd : DecB wB) {x8 s1 s2 s3 : Int} (hn : n < 2147483648) (hk : k < 3) (r1 : R32 s1) (r2 : R32 s2) (r3 : R32 s3) {x9 : Int} (r9 : R32 x9) : Ac (fun z m => f_L_act_156 z m (n : Int) x8 x9 s1 s2 s3) nn wB k n := by
  have k170 : ∀ s4, R32 s4 → Ac (fun z m => f_L_act_170 z m (n : Int) x9 s1 s2 s3 s4) nn wB k n := fun s4 r4 => by
    unfold f_L_act_170
    exact Ac_ite (fun _ => L_fact h0 hd hk r1 r2 r3 r4 (R_wr _) r9 ⟨by decide, by decide⟩) (fun _ => L_fact h0 hd hk r1 r2 r3 r4 (R_wr _) r9 r9)
  unfold f_L_act_156
  exact Ac_ite (fun _ => k170 0 R0) (fun _ => k170 _ (irem_R (dv hn (by decide) (by decide)).1 (dv hn (by decide) (by decide)).2 (by decide) (by decide)))
theorem A_head (h0 : II wA wB) (hd : DecB wB) {x8 s1 s2 s3 : Int} (hn : n < 2147483648) (hk : k = 5 ∨ k = 6) (r1 : R32 s1) (r2 : R32 s2) (r3 : R32 s3) : Ac (fun z m => f_L_act_261 z m (n : Int) x8 s1 s2 s3) nn wB k n := by
  obtain ⟨v, rv, hv⟩ := term_n (dv (c := 11) hn (by decide) (by decide)).1 (dv hn (by decide) (by decide)).2
  unfold f_L_act_261
  refine Ac_ite (fun _ => L_head h0 hd hk r1 r2 r3 R0) (fun _ => ?_)
  exact Ac_congr (fun z m _ => by rw [hv z, bnd_s]) (L_head h0 hd hk r1 r2 r3 rv)
theorem A_heads (h0 : II wA wB) (hd : DecB wB) {x7 x8 s1 : Int} (hn : n < 2147483648) (hk : k = 5 ∨ k = 6) (r1 : R32 s1) : Ac (fun z m => bnd (f_L_term z (n : Int)) fun v35 => if x7 = 0 then (f_L_act_261 v35.1 m (n : Int) x8 s1 v35.2 0) else (bnd (f_L_term v35.1 (idiv (n : Int) 7)) fun v40 => f_L_act_261 v40.1 m (n : Int) x8 s1 v35.2 v40.2)) nn wB k n := by
  obtain ⟨v, rv, hv⟩ := term_n (x := (n : Int)) (by omega) (by omega)
  obtain ⟨u, ru, hu⟩ := term_n (dv (c := 7) hn (by decide) (by decide)).1 (dv hn (by decide) (by decide)).2
  refine Ac_congr (G := fun z m => if x7 = 0 then (f_L_act_261 z m (n : Int) x8 s1 v 0) else (f_L_act_261 z m (n : Int) x8 s1 v u)) (fun z m _ => by rw [hv z, bnd_s, hu z, bnd_s]) ?_
  exact Ac_ite (fun _ => A_head h0 hd hn hk r1 rv R0) (fun _ => A_head h0 hd hn hk r1 rv ru)
theorem A_atom (h0 : II wA wB) (hd : DecB wB) {x8 s1 s2 s3 s4 : Int} (hn : n < 2147483648) (hk : k = 7 ∨ k = 8 ∨ k = 9) (hs : s2 = if 0 < n / 3 % 5 then 1 else 0) (r1 : R32 s1) (r3 : R32 s3) (r4 : R32 s4) : Ac (fun z m => f_L_act_319 z m (n : Int) x8 s1 s2 s3 s4) nn wB k n := by
  obtain ⟨v, rv, hv⟩ := term_n (dv (c := 11) hn (by decide) (by decide)).1 (dv hn (by decide) (by decide)).2
  unfold f_L_act_319
  refine Ac_ite (fun _ => L_atom h0 hd hk hs r1 r3 r4 R0) (fun _ => ?_)
  exact Ac_congr (fun z m _ => by rw [hv z, bnd_s]) (L_atom h0 hd hk hs r1 r3 r4 rv)
theorem A_atoms (h0 : II wA wB) (hd : DecB wB) {x7 x8 s1 s2 : Int} (hn : n < 2147483648) (hk : k = 7 ∨ k = 8 ∨ k = 9) (hs : s2 = if 0 < n / 3 % 5 then 1 else 0) (r1 : R32 s1) : Ac (fun z m => f_L_act_297 z m (n : Int) x7 x8 s1 s2) nn wB k n := by
  obtain ⟨v, rv, hv⟩ := term_n (dv (c := 2) hn (by decide) (by decide)).1 (dv hn (by decide) (by decide)).2
  obtain ⟨u, ru, hu⟩ := term_n (dv (c := 7) hn (by decide) (by decide)).1 (dv hn (by decide) (by decide)).2
  unfold f_L_act_297
  refine Ac_congr (G := fun z m => if x7 = 0 then (f_L_act_319 z m (n : Int) x8 s1 s2 v 0) else (f_L_act_319 z m (n : Int) x8 s1 s2 v u)) (fun z m _ => by rw [hv z, bnd_s, hu z, bnd_s]) ?_
  exact Ac_ite (fun _ => A_atom h0 hd hn hk hs r1 rv R0) (fun _ => A_atom h0 hd hn hk hs r1 rv ru)
theorem A_atomz (h0 : II wA wB) (hd : DecB wB) {x7 x8 s1 : Int} (hn : n < 2147483648) (hk : k = 7 ∨ k = 8 ∨ k = 9) (r1 : R32 s1) : Ac (fun z m => if (irem (idiv (n : Int) 3) 5) ≤ 0 then (f_L_act_297 z m (n : Int) x7 x8 s1 0) else (f_L_act_297 z m (n : Int) x7 x8 s1 1)) nn wB k n := by
  have i1 : idiv (n : Int) 3 = ((n / 3 : Nat) : Int) := by rw [idiv_n (by omega) (by omega) (by decide) (by decide)]; omega
  have i2 : irem ((n / 3 : Nat) : Int) 5 = ((n / 3 % 5 : Nat) : Int) := by rw [irem_n (by omega) (by omega) (by decide) (by decide)]; omega
  rw [i1, i2]
  exact Ac_ite (fun q => A_atoms h0 hd hn hk (by rw [if_neg (by omega)]) r1) (fun q => A_atoms h0 hd hn hk (by rw [if_pos (by omega)]) r1)
theorem A_rem (h0 : II wA wB) (hd : DecB wB) (hN : NT nn wB) {x : Int} (hx : 0 ≤ x) (hx2 : x < 2147483648) (hk : (k = 14 ∧ n % 3 = 2) ∨ k = 15) : Ac (fun z m => if nn 1 = 0 then (bnd (f_L_removes z m 0) fun v1 => some (v1.1, v1.2)) else (gd (nn 1 ≠ 0) (bnd (f_L_removes z m (irem x (nn 1))) fun v1 => some (v1.1, v1.2)))) nn wB k n := by
  obtain ⟨-, n1, -⟩ := hN
  obtain ⟨-, r1, -⟩ := num_rng h0
  refine Ac_ite (fun _ => L_rem h0 hd R0 hk) (fun q => ?_)
  exact Ac_congr (fun z m _ => gd_t q) (L_rem h0 hd (irem_R hx hx2 (by omega) (by omega)) hk)
theorem act_51 (h0 : II wA wB) (hd : DecB wB) (hN : NT nn wB) {x : Nat} (hx : x < 2147483648) (hk : k = x % 16) (hn : n = x / 16) {x4 x5 x6 x7 s0 : Int} (r4 : R32 x4) (r5 : R32 x5) (r6 : R32 x6) : Ac (fun z m => f_L_act_51 z m (x : Int) (n : Int) x4 x5 x6 x7 s0) nn wB k n := by
  have hn2 : n < 2147483648 := by omega
  have i16 : irem (x : Int) 16 = (k : Int) := by rw [irem_n (by omega) (by omega) (by decide) (by decide)]; omega
  have i5 : irem (n : Int) 5 = ((n % 5 : Nat) : Int) := by rw [irem_n (by omega) (by omega) (by decide) (by decide)]; omega
  have i2 : irem (n : Int) 2 = ((n % 2 : Nat) : Int) := by rw [irem_n (by omega) (by omega) (by decide) (by decide)]; omega
  have i3 : irem (n : Int) 3 = ((n % 3 : Nat) : Int) := by rw [irem_n (by omega) (by omega) (by decide) (by decide)]; omega
  have r96 : R32 (irem (idiv (n : Int) 96) 4) := irem_R (dv hn2 (by decide) (by decide)).1 (dv hn2 (by decide) (by decide)).2 (by decide) (by decide)
  have fact : k < 3 → Ac (fun z m => bl (irem (idiv (n : Int) 96) 4) fun n3 => if x7 = 0 then (f_L_act_156 z m (n : Int) s0 n3 x4 x5 0) else (f_L_act_156 z m (n : Int) s0 n3 x4 x5 x6)) nn wB k n := fun h => by
    refine Ac_congr (G := fun z m => if x7 = 0 then (f_L_act_156 z m (n : Int) s0 (irem (idiv (n : Int) 96) 4) x4 x5 0) else (f_L_act_156 z m (n : Int) s0 (irem (idiv (n : Int) 96) 4) x4 x5 x6)) (fun z m _ => by rw [bl_s]) ?_
    exact Ac_ite (fun _ => A_fact h0 hd hn2 h r4 r5 R0 r96) (fun _ => A_fact h0 hd hn2 h r4 r5 r6 r96)
  unfold f_L_act_51
  rw [i16]
  refine Ac_congr (fun z m hz => by rw [bl_s, hz]) ?_
  refine Ac_ite (fun q => fact (by omega)) (fun q0 => ?_)
  refine Ac_ite (fun q => fact (by omega)) (fun q1 => ?_)
  refine Ac_ite (fun q => fact (by omega)) (fun q2 => ?_)
  refine Ac_ite (fun q => ?_) (fun q3 => ?_)
  · have e : k = 3 := by omega
    rw [e]
    obtain ⟨n0, -⟩ := hN
    obtain ⟨r0, -⟩ := num_rng h0
    refine Ac_ite (fun _ => L_drop h0 hd R0) (fun q => ?_)
    exact Ac_congr (fun z m _ => gd_t q) (L_drop h0 hd (irem_R (by omega) (by omega) (by omega) (by omega)))
  refine Ac_ite (fun q => ?_) (fun q4 => ?_)
  · have e : k = 4 := by omega
    rw [e, i5]
    exact Ac_ite (fun q => L_pass h0 hd (by omega)) (fun q => L_size h0 hd r4 (by omega))
  refine Ac_ite (fun q => A_heads h0 hd hn2 (by omega) r4) (fun q5 => ?_)
  refine Ac_ite (fun q => A_heads h0 hd hn2 (by omega) r4) (fun q6 => ?_)
  refine Ac_ite (fun q => A_atomz h0 hd hn2 (by omega) r4) (fun q7 => ?_)
  refine Ac_ite (fun q => A_atomz h0 hd hn2 (by omega) r4) (fun q8 => ?_)
  refine Ac_ite (fun q => A_atomz h0 hd hn2 (by omega) r4) (fun q9 => ?_)
  refine Ac_ite (fun q => ?_) (fun q10 => ?_)
  · have e : k = 10 := by omega
    rw [e]
    obtain ⟨v, rv, hv⟩ := term_n (dv (c := 3) hn2 (by decide) (by decide)).1 (dv hn2 (by decide) (by decide)).2
    obtain ⟨u, ru, hu⟩ := term_n (dv (c := 11) hn2 (by decide) (by decide)).1 (dv hn2 (by decide) (by decide)).2
    refine Ac_ite (fun _ => ?_) (fun _ => ?_)
    · exact Ac_congr (fun z m _ => by rw [hv z, bnd_s, hu z, bnd_s]) (L_comp h0 hd (s1 := irem (idiv (n : Int) 2) 4) (s2 := v) (s3 := u) (irem_R (dv hn2 (by decide) (by decide)).1 (dv hn2 (by decide) (by decide)).2 (by decide) (by decide)) rv ru)
    · exact Ac_congr (fun z m _ => by rw [hv z, bnd_s]) (L_add h0 hd (s1 := wr (-4 - irem (n : Int) 2)) (s2 := v) (s3 := irem (idiv (n : Int) 5) 9) (R_wr _) rv (irem_R (dv hn2 (by decide) (by decide)).1 (dv hn2 (by decide) (by decide)).2 (by decide) (by decide)))
  refine Ac_ite (fun q => L_enter h0 hd (by omega)) (fun q11 => ?_)
  refine Ac_ite (fun q => L_enter h0 hd (by omega)) (fun q12 => ?_)
  refine Ac_ite (fun q => L_enter h0 hd (by omega)) (fun q13 => ?_)
  refine Ac_ite (fun q => ?_) (fun q14 => ?_)
  · have e : k = 14 := by omega
    rw [e, i3]
    refine Ac_ite (fun q => L_deny h0 hd (by omega)) (fun q => ?_)
    refine Ac_ite (fun q2 => L_clear h0 hd (by omega)) (fun q2 => ?_)
    exact A_rem h0 hd hN (by omega) (by omega) (Or.inl ⟨rfl, by omega⟩)
  · exact A_rem h0 hd hN (dv hn2 (by decide) (by decide)).1 (dv hn2 (by decide) (by decide)).2 (Or.inr (by omega))
theorem act_law (h0 : II wA wB) (hd : DecB wB) (hN : NT nn wB) {x : Nat} (hx : x < 2147483648) (hk : k = x % 16) (hn : n = x / 16) : Ac (fun z m => f_L_act z m (x : Int)) nn wB k n := by
  have hn2 : n < 2147483648 := by omega
  have d16 : idiv (x : Int) 16 = (n : Int) := by rw [idiv_n (by omega) (by omega) (by decide) (by decide)]; omega
  have r4 : R32 (irem (n : Int) 6) := irem_R (by omega) (by omega) (by decide) (by decide)
  have r5 : R32 (irem (idiv (n : Int) 6) 4) := irem_R (dv hn2 (by decide) (by decide)).1 (dv hn2 (by decide) (by decide)).2 (by decide) (by decide)
  have r6 : R32 (irem (idiv (n : Int) 24) 4) := irem_R (dv hn2 (by decide) (by decide)).1 (dv hn2 (by decide) (by decide)).2 (by decide) (by decide)
  have k38 : ∀ s0 : Int, Ac (fun z m => f_L_act_38 z m (x : Int) (n : Int) (irem (n : Int) 6) (irem (idiv (n : Int) 6) 4) (irem (idiv (n : Int) 24) 4) s0) nn wB k n := fun s0 => by
    unfold f_L_act_38
    exact Ac_ite (fun _ => act_51 h0 hd hN hx hk hn r4 r5 r6) (fun _ => act_51 h0 hd hN hx hk hn r4 r5 r6)
  unfold f_L_act
  rw [d16]
  refine Ac_congr (fun z m _ => by rw [bl_s, bl_s, bl_s, bl_s]) ?_
  exact Ac_ite (fun _ => k38 0) (fun _ => k38 1)
end ACL
