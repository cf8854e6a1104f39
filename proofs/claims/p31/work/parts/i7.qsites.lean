/-! QUESTIONS that are refused, call by call; the tuples of a relation -/
theorem R0 : R32 0 := ⟨by decide, by decide⟩
theorem Rnn {n : Nat} (h : n < 2147483648) : R32 (n : Int) := ⟨by omega, by omega⟩
section QS
variable {wA wB : World}
theorem q_hol1 (h0 : II wA wB) (hd : DecB wB) {x a b c : Int} (hx : x < 0 ∨ 6 ≤ x) (rx : R32 x) (ra : R32 a) (rb : R32 b) (rc : R32 c) : ActQ (fun z m => f_L_holds z m x a b c) wB wB (-2000000001) :=
  av_holds h0 rx ra rb rc (e := 1) (v := 0) (w'' := wA) (by unfold f_Dm_holds; rw [nodecl h0 hd hx, bnd_s, if_pos rfl])
theorem q_hol2 (h0 : II wA wB) (hd : DecB wB) {h : Nat} {b : Int} (hh : h < 2) (hb : b < -8 ∨ 127 < b) (rb : R32 b) : ActQ (fun z m => f_L_holds z m (h : Int) b 0 0) wB wB 0 :=
  av_holds h0 (Rnn (n := h) (by omega)) rb R0 R0 (e := 0) (v := 0) (w'' := wA) (by
    obtain ⟨t, e1, e2⟩ := pres_ex h0
    unfold f_Dm_holds
    rw [isdecl h0 (by omega) (hd.pos (by omega)), bnd_s, if_neg z10, e1, bnd_s, gd_t e2, noin (j := 0) h0 (by omega) (by omega) (nok (b := b) hd hh (by omega) (by omega) (by omega)), bnd_s, gd_t (Or.inl rfl)])
theorem q_hat1 (h0 : II wA wB) (hd : DecB wB) {x a b c k : Int} (hx : x < 0 ∨ 6 ≤ x) (rx : R32 x) (ra : R32 a) (rb : R32 b) (rc : R32 c) (rk : R32 k) : ActQ (fun z m => f_L_holdsAt z m x a b c k) wB wB (-2000000001) :=
  av_holdsAt h0 rx ra rb rc rk (e := 1) (v := 0) (w'' := wA) (by unfold f_Dm_holdsAt; rw [nodecl h0 hd hx, bnd_s, if_pos rfl])
theorem q_hat2 (h0 : II wA wB) (hd : DecB wB) {h : Nat} {a b c k : Int} (hh : h < 6) (ra : R32 a) (rb : R32 b) (rc : R32 c) (rk : R32 k) (hk : k < 0 ∨ 4 ≤ k) : ActQ (fun z m => f_L_holdsAt z m (h : Int) a b c k) wB wB (-2000000002) :=
  av_holdsAt h0 (Rnn (n := h) (by omega)) ra rb rc rk (e := 2) (v := 0) (w'' := wA) (by
    unfold f_Dm_holdsAt
    rw [isdecl h0 (by omega) (hd.pos (by omega)), bnd_s, if_neg z10]
    by_cases q : k < 0
    · rw [if_pos q]
    · rw [if_neg q, if_neg (by omega)])
theorem q_ane1 (h0 : II wA wB) (hd : DecB wB) {x a b c k : Int} (hx : x < 0 ∨ 6 ≤ x) (rx : R32 x) (ra : R32 a) (rb : R32 b) (rc : R32 c) (rk : R32 k) : ActQ (fun z m => f_L_anew z m x a b c k) wB wB (-2000000001) :=
  av_anew h0 rx ra rb rc rk (e := 1) (v := 0) (w'' := wA) (by unfold f_Dm_holdsAnew; rw [nodecl h0 hd hx, bnd_s, if_pos rfl])
theorem q_ane2 (h0 : II wA wB) (hd : DecB wB) {h : Nat} {a b c k : Int} (hh : h < 6) (ra : R32 a) (rb : R32 b) (rc : R32 c) (rk : R32 k) (hk : 4 ≤ k) : ActQ (fun z m => f_L_anew z m (h : Int) a b c k) wB wB (-2000000002) :=
  av_anew h0 (Rnn (n := h) (by omega)) ra rb rc rk (e := 2) (v := 0) (w'' := wA) (by
    unfold f_Dm_holdsAnew
    rw [isdecl h0 (by omega) (hd.pos (by omega)), bnd_s, if_neg z10, if_neg (by omega), if_neg (by omega)])
theorem q_siz1 (h0 : II wA wB) (hd : DecB wB) {x : Int} (hx : x < 0 ∨ 6 ≤ x) (rx : R32 x) : ActQ (fun z m => f_L_size z m x) wB wB (-2000000001) :=
  av_size h0 rx (e := 1) (v := 0) (w'' := wA) (by unfold f_Dm_size; rw [nodecl h0 hd hx, bnd_s, if_pos rfl])
theorem q_at1 (h0 : II wA wB) (hd : DecB wB) {x k : Int} (hx : x < 0 ∨ 6 ≤ x) (rx : R32 x) (rk : R32 k) : ActQ (fun z m => f_L_at z m x k) wB wB (-2000000001) :=
  av_at h0 rx rk (e := 1) (v := 0) (w'' := wA) (by unfold f_Dm_at f_Dm_at_24; rw [nodecl h0 hd hx, bnd_s, if_pos rfl, if_pos rfl])
theorem q_str1 (h0 : II wA wB) (hd : DecB wB) {x : Int} (hx : x < 0 ∨ 6 ≤ x) (rx : R32 x) : ActQ (fun z m => f_L_stratum z m x) wB wB (-2000000001) :=
  av_stratum h0 rx (e := 1) (v := 0) (w'' := wA) (by unfold f_Dm_stratum; rw [nodecl h0 hd hx, bnd_s, if_pos rfl])
theorem q_way1 (h0 : II wA wB) (hd : DecB wB) {x a b c : Int} (hx : x < 0 ∨ 6 ≤ x) (rx : R32 x) (ra : R32 a) (rb : R32 b) (rc : R32 c) : ActQ (fun z m => f_L_ways z m x a b c) wB wB (-2000000001) :=
  av_ways h0 rx ra rb rc (e := 1) (v := 0) (w'' := wA) (by unfold f_Dm_ways; rw [nodecl h0 hd hx, bnd_s, if_pos rfl])
theorem q_way2 (h0 : II wA wB) (hd : DecB wB) {h : Nat} {b : Int} (hh : h < 2) (hb : b < -8 ∨ 127 < b) (rb : R32 b) : ActQ (fun z m => f_L_ways z m (h : Int) b 0 0) wB wB 0 :=
  av_ways h0 (Rnn (n := h) (by omega)) rb R0 R0 (e := 0) (v := 0) (w'' := wA) (by
    obtain ⟨t, e1, e2⟩ := pres_ex h0
    unfold f_Dm_ways
    rw [isdecl h0 (by omega) (hd.pos (by omega)), bnd_s, if_neg z10, e1, bnd_s, gd_t e2, noin (j := 0) h0 (by omega) (by omega) (nok (b := b) hd hh (by omega) (by omega) (by omega)), bnd_s, if_pos rfl])
theorem q_che1 (h0 : II wA wB) (hd : DecB wB) {x a b c : Int} (hx : x < 0 ∨ 6 ≤ x) (rx : R32 x) (ra : R32 a) (rb : R32 b) (rc : R32 c) : ActQ (fun z m => f_L_cheapest z m x a b c) wB wB (-2000000001) :=
  av_cheapest h0 rx ra rb rc (e := 1) (v := 0) (w'' := wA) (by unfold f_Dm_cheapest; rw [nodecl h0 hd hx, bnd_s, if_pos rfl])
theorem q_che2 (h0 : II wA wB) (hd : DecB wB) {h : Nat} {b : Int} (hh : h < 2) (hb : b < -8 ∨ 127 < b) (rb : R32 b) : ActQ (fun z m => f_L_cheapest z m (h : Int) 0 b 0) wB wB (-1) :=
  av_cheapest h0 (Rnn (n := h) (by omega)) R0 rb R0 (e := 0) (v := -1) (w'' := wA) (by
    obtain ⟨t, e1, e2⟩ := pres_ex h0
    unfold f_Dm_cheapest
    rw [isdecl h0 (by omega) (hd.pos (by omega)), bnd_s, if_neg z10, e1, bnd_s, gd_t e2, noin (j := 1) h0 (by omega) (by omega) (nok (b := b) hd hh (by omega) (by omega) (by omega)), bnd_s, if_pos rfl])
theorem q_nee1 (h0 : II wA wB) (hd : DecB wB) {x a b c : Int} (hx : x < 0 ∨ 6 ≤ x) (rx : R32 x) (ra : R32 a) (rb : R32 b) (rc : R32 c) : ActQ (fun z m => f_L_needed z m x a b c) wB wB (-2000000001) :=
  av_needed h0 rx ra rb rc (e := 1) (v := 0) (w'' := wA) (by unfold f_Dm_needed; rw [nodecl h0 hd hx, bnd_s, if_pos rfl])
theorem need_no {w : World} {x a b c : Int} : f_Dm_needed_42 w x a b c 0 0 0 = some (w, 0, 0) := by
  unfold f_Dm_needed_42
  refine lp_out ?_
  show f_Dm_needed_42B w x a b c 0 0 0 = _
  unfold f_Dm_needed_42B
  rw [if_pos rfl]
theorem q_nee2 (h0 : II wA wB) (hd : DecB wB) {h : Nat} {b : Int} (hh : h < 2) (hb : b ≠ 0) (rb : R32 b) : ActQ (fun z m => f_L_needed z m (h : Int) 0 0 b) wB wB 0 :=
  av_needed h0 (Rnn (n := h) (by omega)) R0 R0 rb (e := 0) (v := 0) (w'' := wA) (by
    obtain ⟨t, e1, e2⟩ := pres_ex h0
    unfold f_Dm_needed
    rw [isdecl h0 (by omega) (hd.pos (by omega)), bnd_s, if_neg z10, e1, bnd_s, gd_t e2, noin (j := 2) h0 (by omega) (by omega) (nok2 (b := b) hd hh hb), bnd_s]
    exact need_no)
theorem q_why1 (h0 : II wA wB) (hd : DecB wB) {x a b c : Int} (hx : x < 0 ∨ 6 ≤ x) (rx : R32 x) (ra : R32 a) (rb : R32 b) (rc : R32 c) : ActQ (fun z m => f_L_whyNot z m x a b c) wB wB (-2000000001) :=
  av_whyNot h0 rx ra rb rc (e := 1) (v := 0) (w'' := wA) (by unfold f_Dm_whyNot; rw [nodecl h0 hd hx, bnd_s, if_pos rfl])
theorem q_why2 (h0 : II wA wB) (hd : DecB wB) {h : Nat} {b : Int} (hh : h < 2) (hb : b < -8 ∨ 127 < b) (rb : R32 b) : ActQ (fun z m => f_L_whyNot z m (h : Int) b 0 0) wB wB (-2000000002) :=
  av_whyNot h0 (Rnn (n := h) (by omega)) rb R0 R0 (e := 2) (v := 0) (w'' := wA) (by
    have e : f_Sc_permits wA (h : Int) 0 b 0 0 = some 0 := noperm (so := 0) (j := 0) h0 (by omega) (by omega) (by omega) (nok (b := b) hd hh (by omega) (by omega) (by omega))
    unfold f_Dm_whyNot
    rw [isdecl h0 (by omega) (hd.pos (by omega)), bnd_s, if_neg z10, e, bnd_s, if_pos rfl])
theorem q_goa1 (h0 : II wA wB) (hd : DecB wB) {x a b c : Int} (hx : x < 0 ∨ 6 ≤ x) (rx : R32 x) (ra : R32 a) (rb : R32 b) (rc : R32 c) : ActQ (fun z m => f_L_goals z m x a b c) wB wB (-2000000001) :=
  av_goals h0 rx ra rb rc (e := 1) (v := 0) (w'' := wA) (by unfold f_Dm_goals; rw [nodecl h0 hd hx, bnd_s, if_pos rfl])
theorem q_goa2 (h0 : II wA wB) (hd : DecB wB) {h : Nat} {b : Int} (hh : h < 2) (hb : b < -9 ∨ 127 < b) (rb : R32 b) : ActQ (fun z m => f_L_goals z m (h : Int) b 0 0) wB wB (-2000000002) :=
  av_goals h0 (Rnn (n := h) (by omega)) rb R0 R0 (e := 2) (v := 0) (w'' := wA) (by
    have e : f_Sc_permits wA (h : Int) 2 b 0 0 = some 0 := noperm (so := 2) (j := 0) h0 (by omega) (by omega) (by omega) (nok (b := b) hd hh (by omega) (by omega) (by omega))
    unfold f_Dm_goals
    rw [isdecl h0 (by omega) (hd.pos (by omega)), bnd_s, if_neg z10, e, bnd_s, if_pos rfl])
theorem q_goa3 (h0 : II wA wB) (hd : DecB wB) {h : Nat} {b : Int} (hh : h < 2) (hb : b ≠ 0) (rb : R32 b) : ActQ (fun z m => f_L_goals z m (h : Int) 0 0 b) wB wB (-2000000002) :=
  av_goals h0 (Rnn (n := h) (by omega)) R0 R0 rb (e := 2) (v := 0) (w'' := wA) (by
    have e : f_Sc_permits wA (h : Int) 2 0 0 b = some 0 := noperm (so := 2) (j := 2) h0 (by omega) (by omega) (by omega) (nok2 (b := b) hd hh hb)
    unfold f_Dm_goals
    rw [isdecl h0 (by omega) (hd.pos (by omega)), bnd_s, if_neg z10, e, bnd_s, if_pos rfl])
theorem norule (h0 : II wA wB) {x : Int} (hx : x < 0 ∨ wB 1 14 ≤ x) : f_Pr_hasRule wA x = some 0 := by
  have h14 := (num_AB h0).2.1
  unfold f_Pr_hasRule
  by_cases q : x < 0
  · rw [if_pos q]
  · rw [if_neg q, h14, if_pos (by omega)]
theorem q_ord1 (h0 : II wA wB) {x k : Int} (hx : x < 0 ∨ wB 1 14 ≤ x) (rx : R32 x) (rk : R32 k) : ActQ (fun z m => f_L_order z m x k) wB wB (-2000000001) :=
  av_order h0 rx rk (e := 1) (v := 0) (w'' := wA) (by unfold f_Dm_order; rw [norule h0 hx, bnd_s, if_pos rfl])
theorem q_ord2 (h0 : II wA wB) {x k : Int} (hk : k < 0) (rx : R32 x) (rk : R32 k) : ActQ (fun z m => f_L_order z m x k) wB wB (-2000000001) :=
  av_order h0 rx rk (e := 1) (v := 0) (w'' := wA) (by
    unfold f_Dm_order f_Pr_hasRule
    by_cases q : x < 0
    · rw [if_pos q, bnd_s, if_pos rfl]
    · rw [if_neg q]
      by_cases q2 : wA 14 4 ≤ x
      · rw [if_pos q2, bnd_s, if_pos rfl]
      · rw [if_neg q2, bnd_s, if_neg z10, if_neg (by omega)])
theorem q_joi1 (h0 : II wA wB) {x : Int} (hx : x < 0 ∨ wB 1 14 ≤ x) (rx : R32 x) : ActQ (fun z m => f_L_joins z m x) wB wB (-2000000001) :=
  av_joins h0 rx (e := 1) (v := 0) (w'' := wA) (by unfold f_Dm_joins; rw [norule h0 hx, bnd_s, if_pos rfl])
theorem q_ind1 (h0 : II wA wB) (hd : DecB wB) {x : Int} (hx : x < 0 ∨ 6 ≤ x) (rx : R32 x) : ActQ (fun z m => f_L_indexes z m x) wB wB (-2000000001) :=
  av_indexes h0 rx (e := 1) (v := 0) (w'' := wA) (by unfold f_Dm_indexes; rw [nodecl h0 hd hx, bnd_s, if_pos rfl])
/-- a place that no order has -/
theorem q_ord3 (h0 : II wA wB) {x k : Int} (hx : 0 ≤ x ∧ x < wB 1 14) (hk : 3 ≤ k) (rx : R32 x) (rk : R32 k) : ActQ (fun z m => f_L_order z m x k) wB wB (-1) := by
  obtain ⟨e, oB, -, hP, h3, h4⟩ := an_order ⟨wA, h0⟩ rx rk
  obtain ⟨w1, v1, g1, g2, -⟩ := h4 wA h0
  have h14 := (num_AB h0).2.1
  have g1' := g1
  unfold f_Dm_order f_Pr_hasRule at g1
  rw [if_neg (by omega), h14, if_neg (by omega), bnd_s, if_neg z10, if_pos (by omega)] at g1
  obtain ⟨a, -, g1⟩ := bnd_some g1
  obtain ⟨-, g1⟩ := gd_some g1
  obtain ⟨b, -, g1⟩ := bnd_some g1
  obtain ⟨p, hp, g1⟩ := bnd_some g1
  have hp1 : p = -1 := by
    unfold f_Pl_placeAt at hp
    rw [if_neg (by omega)] at hp
    by_cases q : b 155 0 ≤ k
    · rw [if_pos q] at hp; exact some_inj hp
    · rw [if_neg q, if_pos hk] at hp; exact some_inj hp
  have hh := some_inj g1
  rw [hp1] at hh
  have e1 : e = 0 := congrArg (fun q => q.2.1) hh
  have e2 : v1 = -1 := congrArg (fun q => q.2.2) hh
  have := g2 e1
  have e3 : rW e oB.2 = -1 := by rw [← this, e1, e2]; rfl
  rw [← e3]
  exact h3
end QS
