/-! THE REFERENCE'S WALK: values of variables, who bound them -/
def vB (w : World) : Nat → Int := fun v => if w 24 v = -9 then -1 else w 23 v
def VB (w : World) : Prop := ∀ v, w 24 v ≠ -9 → 0 ≤ w 23 v ∧ w 23 v < 128
theorem VB.vv {w : World} (h : VB w) : VV (vB w) := by
  intro v
  unfold vB
  by_cases q : w 24 v = -9
  · rw [if_pos q]; omega
  · rw [if_neg q]; have := h v q; omega
theorem wr1t {t : Int} (h : -8 ≤ t ∧ t < 128) : wr ((-1) - t) = (-1) - t := wr_of ⟨by omega, by omega⟩
theorem isBound_n {w : World} {t : Int} (hV : VB w) (h : -8 ≤ t ∧ t < 128) : f_Re_isBound w t = some (if vl (vB w) t = -1 then 0 else 1) := by
  unfold f_Re_isBound f_Re_isBound_17 vl vB
  by_cases ht : t < 0
  · rw [if_neg (by omega), wr1t h, gd_t ⟨by omega, by omega⟩, if_pos ht]
    by_cases q : w 24 (-1 - t).toNat = -9
    · rw [if_pos q, if_pos q, if_pos rfl]
    · have := hV _ q
      rw [if_neg q, if_neg q, if_neg (by omega)]
  · rw [if_pos (by omega), if_neg ht, if_neg (by omega)]
theorem valueOf_b {w : World} {t : Int} (h : -8 ≤ t ∧ t < 128) (hb : vl (vB w) t ≠ -1) : f_Re_valueOf w t = some (vl (vB w) t) := by
  unfold f_Re_valueOf
  unfold vl vB at hb ⊢
  by_cases ht : t < 0
  · rw [if_pos ht] at hb
    rw [if_pos ht, wr1t h, gd_t ⟨by omega, by omega⟩, if_pos ht]
    by_cases q : w 24 (-1 - t).toNat = -9
    · rw [if_pos q] at hb
      exact absurd rfl hb
    · rw [if_neg q]
  · rw [if_neg ht, if_neg ht]
/-- a variable bound by a literal -/
def bw (w : World) (t x own : Int) : World := up (up w 23 (-1 - t).toNat x) 24 (-1 - t).toNat own
theorem match_n {w : World} {own t x : Int} (hV : VB w) (h : -8 ≤ t ∧ t < 128) : f_Re_match w own t x = if vl (vB w) t = -1 then some (bw w t x own, 1) else if vl (vB w) t = x then some (w, 1) else some (w, 0) := by
  unfold f_Re_match
  rw [isBound_n hV h, bnd_s]
  by_cases q : vl (vB w) t = -1
  · rw [if_pos q, if_pos rfl, if_pos q]
    have ht : t < 0 := by
      refine Classical.byContradiction fun hn => ?_
      unfold vl at q
      rw [if_neg hn] at q
      omega
    rw [wr1t h, gd_t ⟨by omega, by omega⟩, bl_s, gd_t ⟨by omega, by omega⟩, bl_s]
    rfl
  · rw [if_neg q, if_neg (by decide), if_neg q, valueOf_b h q, bnd_s]
theorem bw_vB {w : World} {t x own : Int} (ht : t < 0) (hq : vl (vB w) t = -1) (ho : own ≠ -9) : vB (bw w t x own) = bd (vB w) t x := by
  have hv : vB w (-1 - t).toNat = -1 := by
    unfold vl at hq
    rw [if_pos ht] at hq
    exact hq
  have hb : bd (vB w) t x = upn (vB w) (-1 - t).toNat x := if_pos ⟨ht, hv⟩
  rw [hb]
  funext v
  by_cases e : v = (-1 - t).toNat
  · subst e
    rw [upn_eq]
    unfold vB bw
    simp [up, ho]
  · rw [upn_ne e]
    unfold vB bw
    simp [up, e]
theorem bw_VB {w : World} {t x own : Int} (hV : VB w) (hx : 0 ≤ x ∧ x < 128) : VB (bw w t x own) := by
  intro v hv
  by_cases e : v = (-1 - t).toNat
  · have : bw w t x own 23 v = x := by unfold bw; simp [up, e]
    rw [this]
    exact hx
  · have e1 : bw w t x own 23 v = w 23 v := by unfold bw; simp [up, e]
    have e2 : bw w t x own 24 v = w 24 v := by unfold bw; simp [up, e]
    rw [e1]
    rw [e2] at hv
    exact hV v hv
/-- what a literal has bound is free again -/
def uw (w : World) (own : Int) : World := fun c k => if c = 24 ∧ k < 8 ∧ w 24 k = own then -9 else w c k
theorem unbind_b {w : World} {own : Int} (ho : own ≠ -9) : f_Re_unbind w own = some (uw w own) := by
  let g : Nat → World := fun i => fun c k => if c = 24 ∧ k < i ∧ w 24 k = own then -9 else w c k
  have h := lp_go (F := fun z : (World × Int) => f_Re_unbind_2B z.1 own z.2) (fun i => (g i, (i : Int))) (g 8) 8 (fun i hi => by
    show f_Re_unbind_2B (g i) own (i : Int) = some (Sum.inl (g (i + 1), ((i + 1 : Nat) : Int)))
    have gi : g i 24 i = w 24 i := by
      show (if 24 = 24 ∧ i < i ∧ w 24 i = own then (-9 : Int) else w 24 i) = w 24 i
      rw [if_neg (fun z => absurd z.2.1 (Nat.lt_irrefl i))]
    have e : ∀ v : Int, v = (if w 24 i = own then -9 else w 24 i) → up (g i) 24 i v = g (i + 1) := fun v hv => by
      funext c k
      show (if c = 24 ∧ k = i then v else if c = 24 ∧ k < i ∧ w 24 k = own then -9 else w c k) = if c = 24 ∧ k < i + 1 ∧ w 24 k = own then -9 else w c k
      by_cases q : c = 24
      · subst q
        by_cases q1 : k = i
        · subst q1
          rw [if_pos ⟨rfl, rfl⟩, hv]
          by_cases q2 : w 24 k = own
          · rw [if_pos q2, if_pos ⟨rfl, by omega, q2⟩]
          · rw [if_neg q2, if_neg (fun z => q2 z.2.2)]
        · rw [if_neg (fun z => q1 z.2)]
          by_cases q2 : k < i ∧ w 24 k = own
          · rw [if_pos ⟨rfl, q2.1, q2.2⟩, if_pos ⟨rfl, by omega, q2.2⟩]
          · rw [if_neg (fun z => q2 z.2), if_neg (fun z => q2 ⟨by omega, z.2.2⟩)]
      · rw [if_neg (fun z => q z.1), if_neg (fun z => q z.1), if_neg (fun z => q z.1)]
    unfold f_Re_unbind_2B f_Re_unbind_34
    rw [if_neg (by omega), gd_t ⟨by omega, by omega⟩, Int.toNat_natCast, gi]
    by_cases q : w 24 i = own
    · rw [if_pos q, gd_t ⟨by omega, by omega⟩, bl_s, bl_s, wr_of (x := (i : Int) + 1) ⟨by omega, by omega⟩, e (-9) (by rw [if_pos q])]
      rfl
    · rw [if_neg q, gd_t ⟨by omega, by omega⟩, gd_t ⟨by omega, by omega⟩, bl_s, bl_s, wr_of (x := (i : Int) + 1) ⟨by omega, by omega⟩, e (w 24 i) (by rw [if_neg q])]
      rfl) (by
    show f_Re_unbind_2B (g 8) own ((8 : Nat) : Int) = _
    unfold f_Re_unbind_2B
    rw [if_pos (by decide)])
  have e0 : g 0 = w := by
    funext c k
    show (if c = 24 ∧ k < 0 ∧ w 24 k = own then (-9 : Int) else w c k) = w c k
    rw [if_neg (fun z => absurd z.2.1 (Nat.not_lt_zero k))]
  have h : lp (fun z : (World × Int) => f_Re_unbind_2B z.1 own z.2) (g 0, ((0 : Nat) : Int)) = some (g 8) := h
  rw [e0] at h
  unfold f_Re_unbind f_Re_unbind_2
  exact h
theorem uw_VB {w : World} {own : Int} (hV : VB w) : VB (uw w own) := by
  intro v hv
  have e : uw w own 23 v = w 23 v := by
    show (if 23 = 24 ∧ v < 8 ∧ w 24 v = own then (-9 : Int) else w 23 v) = w 23 v
    rw [if_neg (fun z => absurd z.1 (by decide))]
  rw [e]
  refine hV v (fun q => hv ?_)
  show (if 24 = 24 ∧ v < 8 ∧ w 24 v = own then (-9 : Int) else w 24 v) = -9
  split
  · rfl
  · exact q
