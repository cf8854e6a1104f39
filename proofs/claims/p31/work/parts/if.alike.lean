/-! THE LAW over one picture: both mills at once; alike -/
def W2 (z : ZQ) (nn : Nat → Int) (wB : World) : Prop := II z.1 wB ∧ II z.2.1 wB ∧ z.2.2 = nn
theorem W2.g {z : ZQ} {nn : Nat → Int} {wB : World} (h : W2 z nn wB) (m : Bool) : II (zg z m) wB := by
  cases m
  · exact h.1
  · exact h.2.1
theorem W2.s {z : ZQ} {nn : Nat → Int} {wB w : World} (h : W2 z nn wB) (m : Bool) (hw : II w wB) : W2 (zs z m w) nn wB := by
  cases m
  · exact ⟨hw, h.2.1, h.2.2⟩
  · exact ⟨h.1, hw, h.2.2⟩
def Eo {β : Type} (P : β → Prop) (o : Option β) : Prop := ∃ b, o = some b ∧ P b
section EO
variable {β γ S R : Type} {P : β → Prop} {wB : World} {nn : Nat → Int} {z : ZQ} {m : Bool}
theorem Eo_bnd {f : ZQ → Bool → Option (ZQ × Int)} {k : ZQ × Int → Option β} {r1 : Int} (ha : ActQ f wB wB r1) (hz : W2 z nn wB) (hk : ∀ z', W2 z' nn wB → Eo P (k (z', r1))) : Eo P (bnd (f z m) k) := by
  obtain ⟨w', h1, h2⟩ := ha z m (hz.g m)
  rw [h1, bnd_s]
  exact hk _ (hz.s m h2)
theorem Eo_b {Q : γ → Prop} {o : Option γ} {k : γ → Option β} (h : Eo Q o) (hk : ∀ b, Q b → Eo P (k b)) : Eo P (bnd o k) := by
  obtain ⟨b, h1, h2⟩ := h
  rw [h1, bnd_s]
  exact hk b h2
theorem Eo_t {c : Prop} [Decidable c] {a b : Option β} (h : c) (k : Eo P a) : Eo P (if c then a else b) := by rw [if_pos h]; exact k
theorem Eo_f {c : Prop} [Decidable c] {a b : Option β} (h : ¬ c) (k : Eo P b) : Eo P (if c then a else b) := by rw [if_neg h]; exact k
theorem Eo_g {c : Prop} [Decidable c] {a : Option β} (h : c) (k : Eo P a) : Eo P (gd c a) := by rw [gd_t h]; exact k
theorem Eo_l {α : Type} {x : α} {f : α → Option β} (k : Eo P (f x)) : Eo P (bl x f) := k
theorem Eo_r {b : β} (h : P b) : Eo P (some b) := ⟨b, rfl, h⟩
theorem Eo_step {F : S → Option (S ⊕ β)} {s : S} (Q : S → Prop) (h : Eo (fun b => ∃ s', b = Sum.inl s' ∧ Q s') (F s)) (k : ∀ s', Q s' → Eo P (lp F s')) : Eo P (lp F s) := by
  obtain ⟨b, h1, s', rfl, h2⟩ := h
  rw [lp_step h1]
  exact k s' h2
theorem Eo_out {F : S → Option (S ⊕ β)} {s : S} (h : Eo (fun b => ∃ r, b = Sum.inr r ∧ P r) (F s)) : Eo P (lp F s) := by
  obtain ⟨b, h1, r, rfl, h2⟩ := h
  rw [lp_out h1]
  exact ⟨r, rfl, h2⟩
end EO
def P1 (nn : Nat → Int) (wB : World) (o : ZQ × Int) : Prop := W2 o.1 nn wB ∧ o.2 = 1
section AL
variable {nn : Nat → Int} {wA wB : World} {T : Nat → List Nat} {x3 : Nat}
theorem al_rules {k : Nat} (h0 : II wA wB) (hk : nn 1 = (k : Int)) (hk12 : k ≤ 12) (hx : x3 < 2147483648) : ∀ (j i t : Nat) (z : ZQ), i + j = k → t ≤ 906 + 4 * i → W2 z nn wB → Eo (P1 nn wB) (f_L_alike_145 z false true t (x3 : Int) 1 (i : Int)) := by
  have i3 : irem (x3 : Int) 3 = ((x3 % 3 : Nat) : Int) := by rw [irem_n (by omega) (by omega) (by decide) (by decide)]; omega
  intro j
  induction j with
  | zero =>
    intro i t z hi ht hz
    unfold f_L_alike_145
    refine Eo_out ?_
    show Eo _ (f_L_alike_145B z false true t (x3 : Int) 1 (i : Int))
    unfold f_L_alike_145B
    refine Eo_g (by omega) ?_
    refine Eo_t (by rw [hz.2.2, hk]; omega) ?_
    refine Eo_g (Or.inr rfl) ?_
    exact Eo_r ⟨_, rfl, hz, rfl⟩
  | succ j ih =>
    intro i t z hi ht hz
    unfold f_L_alike_145
    refine Eo_step (fun s => ∃ (z' : ZQ) (t' : Nat), s = (z', t', 1, ((i + 1 : Nat) : Int)) ∧ t' ≤ 906 + 4 * (i + 1) ∧ W2 z' nn wB) ?_ ?_
    · show Eo _ (f_L_alike_145B z false true t (x3 : Int) 1 (i : Int))
      obtain ⟨nj, oj, -, -, qj, -⟩ := an_joins ⟨wA, h0⟩ (x1 := (i : Int)) (Rnn (by omega))
      obtain ⟨no, oo, -, -, qo, -⟩ := an_order ⟨wA, h0⟩ (x1 := (i : Int)) (x2 := ((x3 % 3 : Nat) : Int)) (Rnn (by omega)) (Rnn (by omega))
      unfold f_L_alike_145B
      rw [i3]
      refine Eo_g (by omega) ?_
      refine Eo_f (by rw [hz.2.2, hk]; omega) ?_
      refine Eo_f z10 ?_
      refine Eo_bnd qj hz (fun z hz => ?_)
      refine Eo_bnd qj hz (fun z hz => ?_)
      refine Eo_t rfl ?_
      refine Eo_bnd qo hz (fun z hz => ?_)
      refine Eo_bnd qo hz (fun z hz => ?_)
      refine Eo_t rfl ?_
      unfold f_L_alike_199
      refine Eo_g (by omega) ?_
      refine Eo_l ?_
      rw [wr_s (a := (i : Int) + 1) (by omega) (by omega)]
      exact Eo_r ⟨_, rfl, z, t + 4, rfl, by omega, hz⟩
    · rintro s ⟨z', t', rfl, ht', hz'⟩
      exact ih (i + 1) t' z' (by omega) ht' hz'
theorem al_tup {r : Nat} (h0 : II wA wB) (hT : Tup wA T) (hr : r < 6) : ∀ (j p t : Nat) (z : ZQ), p + j = (T r).length → t ≤ 151 * r + 6 + 3 * p → W2 z nn wB → Eo (fun b => ∃ s', b = Sum.inl s' ∧ ∃ (z' : ZQ) (t' : Nat), s' = (z', t', 1, ((r + 1 : Nat) : Int)) ∧ t' ≤ 151 * (r + 1) ∧ W2 z' nn wB) (f_L_alike_88 z false true t (x3 : Int) 1 (r : Int) (p : Int)) := by
  have hl := len_T hT hr
  intro j
  induction j with
  | zero =>
    intro p t z hp ht hz
    unfold f_L_alike_88
    refine Eo_out ?_
    show Eo _ (f_L_alike_88B z false true t (x3 : Int) 1 (r : Int) (p : Int))
    unfold f_L_alike_88B
    refine Eo_g (by omega) ?_
    refine Eo_bnd (v_size h0 hT hr) hz (fun z hz => ?_)
    refine Eo_t (by show ((T r).length : Int) ≤ (p : Int); omega) ?_
    unfold f_L_alike_136
    rw [gd_t (by omega), bl_s, bnd_s, wr_s (a := (r : Int) + 1) (by omega) (by omega)]
    exact Eo_r ⟨_, rfl, _, rfl, z, t + 1, rfl, by omega, hz⟩
  | succ j ih =>
    intro p t z hp ht hz
    unfold f_L_alike_88
    refine Eo_step (fun s => ∃ (z' : ZQ) (t' : Nat), s = (z', t', 1, ((p + 1 : Nat) : Int)) ∧ t' ≤ 151 * r + 6 + 3 * (p + 1) ∧ W2 z' nn wB) ?_ ?_
    · show Eo _ (f_L_alike_88B z false true t (x3 : Int) 1 (r : Int) (p : Int))
      unfold f_L_alike_88B
      refine Eo_g (by omega) ?_
      refine Eo_bnd (v_size h0 hT hr) hz (fun z hz => ?_)
      refine Eo_f (by show ¬ ((T r).length : Int) ≤ (p : Int); omega) ?_
      refine Eo_f z10 ?_
      refine Eo_bnd (v_at h0 hT hr (p := p) (by omega)) hz (fun z hz => ?_)
      refine Eo_bnd (v_at h0 hT hr (p := p) (by omega)) hz (fun z hz => ?_)
      refine Eo_t rfl ?_
      unfold f_L_alike_128
      refine Eo_g (by omega) ?_
      refine Eo_l ?_
      rw [wr_s (a := (p : Int) + 1) (by omega) (by omega)]
      exact Eo_r ⟨_, rfl, z, t + 3, rfl, by omega, hz⟩
    · rintro s ⟨z', t', rfl, ht', hz'⟩
      exact ih (p + 1) t' z' (by omega) ht' hz'
theorem al_rel {k : Nat} (h0 : II wA wB) (hd : DecB wB) (hT : Tup wA T) (hk : nn 1 = (k : Int)) (hk12 : k ≤ 12) (hx : x3 < 2147483648) : ∀ (j r t : Nat) (z : ZQ), r + j = 6 → t ≤ 151 * r → W2 z nn wB → Eo (P1 nn wB) (f_L_alike_21 z false true t (x3 : Int) 1 (r : Int)) := by
  intro j
  induction j with
  | zero =>
    intro r t z hr ht hz
    unfold f_L_alike_21
    refine Eo_out ?_
    show Eo _ (f_L_alike_21B z false true t (x3 : Int) 1 (r : Int))
    unfold f_L_alike_21B
    refine Eo_g (by omega) ?_
    refine Eo_t (by omega) ?_
    refine Eo_b (Q := P1 nn wB) ?_ (fun b hb => Eo_r ⟨b, rfl, hb⟩)
    unfold f_L_alike_142
    refine Eo_g (by omega) ?_
    exact al_rules h0 hk hk12 hx k 0 t z (by omega) (by omega) hz
  | succ j ih =>
    intro r t z hr ht hz
    have hr6 : r < 6 := by omega
    unfold f_L_alike_21
    refine Eo_step (fun s => ∃ (z' : ZQ) (t' : Nat), s = (z', t', 1, ((r + 1 : Nat) : Int)) ∧ t' ≤ 151 * (r + 1) ∧ W2 z' nn wB) ?_ ?_
    · show Eo _ (f_L_alike_21B z false true t (x3 : Int) 1 (r : Int))
      obtain ⟨ns, os, -, -, qs, -⟩ := an_stratum ⟨wA, h0⟩ (x1 := (r : Int)) (Rnn (by omega))
      obtain ⟨ni, oi, -, -, qi, -⟩ := an_indexes ⟨wA, h0⟩ (x1 := (r : Int)) (Rnn (by omega))
      unfold f_L_alike_21B
      refine Eo_g (by omega) ?_
      refine Eo_f (by omega) ?_
      refine Eo_f z10 ?_
      refine Eo_bnd (v_size h0 hT hr6) hz (fun z hz => ?_)
      refine Eo_bnd (v_size h0 hT hr6) hz (fun z hz => ?_)
      refine Eo_t rfl ?_
      refine Eo_bnd qs hz (fun z hz => ?_)
      refine Eo_bnd qs hz (fun z hz => ?_)
      refine Eo_t rfl ?_
      refine Eo_bnd qi hz (fun z hz => ?_)
      refine Eo_bnd qi hz (fun z hz => ?_)
      refine Eo_t rfl ?_
      unfold f_L_alike_83
      refine Eo_g (by omega) ?_
      exact al_tup h0 hT hr6 (T r).length 0 (t + 6) z (by omega) (by omega) hz
    · rintro s ⟨z', t', rfl, ht', hz'⟩
      exact ih (r + 1) t' z' (by omega) ht' hz'
theorem alike_law {z : ZQ} (hd : DecB wB) (hN : NT nn wB) (hz : W2 z nn wB) (hx : x3 < 2147483648) : Eo (P1 nn wB) (f_L_alike z false true (x3 : Int)) := by
  have h0 := hz.1
  obtain ⟨T, hT⟩ := tup_ex h0 hd
  obtain ⟨-, r1, -⟩ := num_rng h0
  obtain ⟨-, n1, -⟩ := hN
  obtain ⟨k, hk⟩ : ∃ k : Nat, nn 1 = (k : Int) := ⟨(nn 1).toNat, by omega⟩
  obtain ⟨oB, -, hall⟩ := an_broken ⟨_, h0⟩
  obtain ⟨w1, e1, g1⟩ := hall _ (hz.g false)
  have hz1 := hz.s false g1
  obtain ⟨w2, e2, g2⟩ := hall _ (hz1.g true)
  have hz2 := hz1.s true g2
  unfold f_L_alike
  rw [e1, bnd_s]
  refine Eo_l ?_
  rw [e2, bnd_s]
  refine Eo_l ?_
  refine Eo_t rfl ?_
  exact al_rel h0 hd hT hk (by omega) hx 6 0 0 _ (by omega) (by omega) hz2
end AL
