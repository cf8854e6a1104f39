/-! THE CLASS'S WALK: values of variables, binding and unbinding -/
def setV (w : World) (vs : Nat → Int) : World := fun c k => if c = 104 then vs k else w c k
theorem setV_self {w : World} : setV w (w 104) = w := by
  funext c k
  unfold setV
  by_cases h : c = 104
  · rw [if_pos h, h]
  · rw [if_neg h]
theorem setV_set {w : World} {a b : Nat → Int} : setV (setV w a) b = setV w b := by
  funext c k
  unfold setV
  by_cases h : c = 104
  · rw [if_pos h, if_pos h]
  · rw [if_neg h, if_neg h, if_neg h]
theorem setV_104 {w : World} {a : Nat → Int} : setV w a 104 = a := funext (fun k => if_pos rfl)
theorem setV_ne {w : World} {a : Nat → Int} {c : Nat} (h : c ≠ 104) : setV w a c = w c := funext (fun k => if_neg h)
theorem up_V {w : World} {v : Nat} {x : Int} : up w 104 v x = setV w (upn (w 104) v x) := by
  funext c k
  unfold up setV upn
  by_cases h : c = 104
  · subst h
    by_cases h2 : k = v
    · simp [h2]
    · simp [h2]
  · simp [h]
/-- values: -1 for a variable that is not bound -/
def VV (vs : Nat → Int) : Prop := ∀ v, -1 ≤ vs v ∧ vs v < 128
def vl (vs : Nat → Int) (t : Int) : Int := if t < 0 then vs (-1 - t).toNat else t
def bd (vs : Nat → Int) (t x : Int) : Nat → Int := if t < 0 ∧ vs (-1 - t).toNat = -1 then upn vs (-1 - t).toNat x else vs
def ub (vs : Nat → Int) (m : Nat) : Nat → Int := fun v => if m.testBit v = true then -1 else vs v
theorem valueOf_n {w : World} {t : Int} (h : -8 ≤ t ∧ t < 128) : f_Wa_valueOf w t = some (vl (w 104) t) := by
  unfold f_Wa_valueOf vl
  rw [bl_s, wr_of (x := (-1) - t) ⟨by omega, by omega⟩]
  by_cases ht : t < 0
  · rw [if_neg (by omega), if_neg (by omega), gd_t ⟨by omega, by omega⟩, if_pos ht]
  · rw [if_pos (by omega), if_neg ht]
theorem bindIfFree_n {w : World} {t x : Int} (h : -8 ≤ t ∧ t < 128) : f_Wa_bindIfFree w t x = some (setV w (bd (w 104) t x)) := by
  unfold f_Wa_bindIfFree bd
  rw [bl_s, wr_of (x := (-1) - t) ⟨by omega, by omega⟩]
  by_cases ht : t < 0
  · rw [if_neg (by omega), if_neg (by omega), gd_t ⟨by omega, by omega⟩]
    by_cases hv : w 104 (-1 - t).toNat = -1
    · rw [if_pos hv, if_pos ⟨ht, hv⟩, gd_t ⟨by omega, by omega⟩, bl_s, up_V]
    · rw [if_neg hv, if_neg (fun q => hv q.2), setV_self]
  · rw [if_pos (by omega), if_neg (fun q => ht q.1), setV_self]
theorem bit_one {m v : Nat} (hv : v < 32) (hm : m < 2147483648) : iand (ishr (m : Int) (v : Int)) 1 = if m.testBit v = true then 1 else 0 := by
  have h1 := Nat.div_le_self m (2 ^ v)
  rw [ishr_n hv hm, show (1 : Int) = ((1 : Nat) : Int) from rfl, iand_n (by omega) (by omega), Nat.and_one_is_mod, Nat.testBit_eq_decide_div_mod_eq]
  have : m / 2 ^ v % 2 = 0 ∨ m / 2 ^ v % 2 = 1 := by omega
  rcases this with e | e <;> rw [e] <;> rfl
def ubk (vs : Nat → Int) (m k : Nat) : Nat → Int := fun v => if v < k ∧ m.testBit v = true then -1 else vs v
theorem unbind_n {w : World} {m : Nat} (hm : m < 256) : f_Wa_unbind w (m : Int) = some (setV w (ub (w 104) m)) := by
  unfold f_Wa_unbind f_Wa_unbind_2
  by_cases h0 : m = 0
  · subst h0
    refine lp_out ?_
    show f_Wa_unbind_2B w 0 0 = _
    unfold f_Wa_unbind_2B
    rw [if_neg (by decide), if_pos rfl]
    have : ub (w 104) 0 = w 104 := by
      funext v
      unfold ub
      simp
    rw [this, setV_self]
  · have hg : ∀ i, i < 8 → f_Wa_unbind_2B (setV w (ubk (w 104) m i)) (m : Int) (i : Int) = some (Sum.inl (setV w (ubk (w 104) m (i + 1)), ((i + 1 : Nat) : Int))) := by
      intro i hi
      unfold f_Wa_unbind_2B f_Wa_unbind_30
      rw [if_neg (by omega), if_neg (by omega), bit_one (by omega) (by omega), bl_s, wr_of (x := (i : Int) + 1) ⟨by omega, by omega⟩]
      by_cases hb : m.testBit i = true
      · rw [if_pos hb, if_neg (by decide), gd_t ⟨by omega, by omega⟩, bl_s, Int.toNat_natCast, up_V, setV_set, setV_104]
        have : upn (ubk (w 104) m i) i (-1) = ubk (w 104) m (i + 1) := by
          funext v
          unfold upn ubk
          by_cases e : v = i
          · subst e; rw [if_pos rfl, if_pos ⟨by omega, hb⟩]
          · rw [if_neg e]
            by_cases q : v < i ∧ m.testBit v = true
            · rw [if_pos q, if_pos ⟨by omega, q.2⟩]
            · rw [if_neg q, if_neg (fun z => q ⟨by omega, z.2⟩)]
        rw [this]
        rfl
      · rw [if_neg hb, if_pos rfl]
        have : ubk (w 104) m i = ubk (w 104) m (i + 1) := by
          funext v
          unfold ubk
          by_cases e : v = i
          · subst e; rw [if_neg (by omega), if_neg (fun z => hb z.2)]
          · by_cases q : v < i ∧ m.testBit v = true
            · rw [if_pos q, if_pos ⟨by omega, q.2⟩]
            · rw [if_neg q, if_neg (fun z => q ⟨by omega, z.2⟩)]
        rw [this]
        rfl
    have h8 : f_Wa_unbind_2B (setV w (ubk (w 104) m 8)) (m : Int) ((8 : Nat) : Int) = some (Sum.inr (setV w (ub (w 104) m))) := by
      unfold f_Wa_unbind_2B
      rw [if_pos (by decide)]
      have : ubk (w 104) m 8 = ub (w 104) m := by
        funext v
        unfold ubk ub
        by_cases q : v < 8
        · simp [q]
        · have : m.testBit v = false := Nat.testBit_lt_two_pow (Nat.lt_of_lt_of_le hm (show 2 ^ 8 ≤ 2 ^ v from Nat.pow_le_pow_right (by omega) (by omega)))
          simp [this]
      rw [this]
    have h00 : setV w (ubk (w 104) m 0) = w := by
      have : ubk (w 104) m 0 = w 104 := by
        funext v
        unfold ubk
        rw [if_neg (by omega)]
      rw [this, setV_self]
    have := lp_go (F := fun z : World × Int => f_Wa_unbind_2B z.1 (m : Int) z.2) (fun i => (setV w (ubk (w 104) m i), (i : Int))) (setV w (ub (w 104) m)) 8 hg h8
    rw [h00] at this
    exact this
theorem noteBound_n {w : World} {p : Nat} {x : Int} (h : p < 5) : f_Wa_noteBound w (p : Int) x = some (up w 106 p x) := by
  unfold f_Wa_noteBound
  rw [if_neg (by omega), if_neg (by omega), gd_t ⟨by omega, by omega⟩, bl_s, Int.toNat_natCast]
theorem boundAt_n {w : World} {p : Nat} (h : p < 5) : f_Wa_boundAt w (p : Int) = some (w 106 p) := by
  unfold f_Wa_boundAt
  rw [if_neg (by omega), if_neg (by omega), gd_t ⟨by omega, by omega⟩, Int.toNat_natCast]
def vb (t : Int) : Nat := if t < 0 then 2 ^ (-1 - t).toNat else 0
theorem variableBit_n {t : Int} (h : -8 ≤ t ∧ t < 128) : f_Dm_variableBit t = some ((vb t : Nat) : Int) := by
  unfold f_Dm_variableBit vb
  by_cases ht : t < 0
  · rw [if_neg (by omega), if_neg (by omega), if_pos ht, wr_of (x := (-1) - t) ⟨by omega, by omega⟩]
    obtain ⟨v, hv⟩ : ∃ v : Nat, (-1) - t = (v : Int) := ⟨((-1) - t).toNat, by omega⟩
    have h2 : 2 ^ v < 2147483648 := Nat.lt_of_le_of_lt (Nat.pow_le_pow_right (by omega) (show v ≤ 7 by omega)) (by decide)
    rw [hv, show (1 : Int) = ((1 : Nat) : Int) from rfl, ishl_n (by omega) (by omega), Int.toNat_natCast, Nat.one_mul]
  · rw [if_pos (by omega), if_neg ht]
    rfl
theorem termOf_n {w : World} {b p c : Nat} (h : p < 6) (hc : c < 3) : f_Bo_termOf w b (p : Int) (c : Int) = some (w (b + 3) (3 * p + c)) := by
  unfold f_Bo_termOf
  rw [bl_s, wr_of (x := (p : Int) * 3) ⟨by omega, by omega⟩, wr_of (x := (p : Int) * 3 + (c : Int)) ⟨by omega, by omega⟩, if_neg (by omega), if_neg (by omega), gd_t ⟨by omega, by omega⟩]
  have : ((p : Int) * 3 + (c : Int)).toNat = 3 * p + c := by omega
  rw [this]
theorem formOf_n {w : World} {b p : Nat} (h : p < 5) : f_Bo_formOf w b (p : Int) = some (w (b + 1) p) := by
  unfold f_Bo_formOf
  rw [if_neg (by omega), if_neg (by omega), gd_t ⟨by omega, by omega⟩, Int.toNat_natCast]
theorem subjectOf_n {w : World} {b p : Nat} (h : p < 5) : f_Bo_subjectOf w b (p : Int) = some (w (b + 2) p) := by
  unfold f_Bo_subjectOf
  rw [if_neg (by omega), if_neg (by omega), gd_t ⟨by omega, by omega⟩, Int.toNat_natCast]
/-- m tells which variables are bound since -/
def Bnd (v0 v1 : Nat → Int) (m : Nat) : Prop := m < 256 ∧ (∀ v, m.testBit v = true → v0 v = -1) ∧ ∀ v, m.testBit v = false → v1 v = v0 v
theorem Bnd.refl {v : Nat → Int} : Bnd v v 0 := ⟨by omega, fun v h => by simp at h, fun _ _ => rfl⟩
theorem Bnd.ub {v0 v1 : Nat → Int} {m : Nat} (h : Bnd v0 v1 m) : ub v1 m = v0 := by
  funext v
  show (if m.testBit v = true then -1 else v1 v) = v0 v
  by_cases q : m.testBit v = true
  · rw [if_pos q, h.2.1 v q]
  · rw [if_neg q, h.2.2 v (by simpa using q)]
theorem Bnd.bind {v0 v1 : Nat → Int} {m : Nat} {t x : Int} (h : Bnd v0 v1 m) (ht : -8 ≤ t ∧ t < 0) (hv : v1 (-1 - t).toNat = -1) : Bnd v0 (bd v1 t x) (m ||| vb t) := by
  have hb : bd v1 t x = upn v1 (-1 - t).toNat x := if_pos ⟨ht.2, hv⟩
  have hvb : vb t = 2 ^ (-1 - t).toNat := if_pos ht.2
  have h7 : (-1 - t).toNat ≤ 7 := by omega
  rw [hb, hvb]
  refine ⟨Nat.or_lt_two_pow (n := 8) h.1 (Nat.lt_of_le_of_lt (Nat.pow_le_pow_right (by omega) h7) (by decide)), fun v hq => ?_, fun v hq => ?_⟩
  · rw [Nat.testBit_or, Nat.testBit_two_pow, Bool.or_eq_true] at hq
    rcases hq with hq | hq
    · exact h.2.1 v hq
    · have e : (-1 - t).toNat = v := of_decide_eq_true hq
      subst e
      by_cases q : m.testBit (-1 - t).toNat = true
      · exact h.2.1 _ q
      · rw [← h.2.2 _ (by simpa using q)]; exact hv
  · rw [Nat.testBit_or, Nat.testBit_two_pow, Bool.or_eq_false_iff] at hq
    have e : (-1 - t).toNat ≠ v := of_decide_eq_false hq.2
    rw [upn_ne (fun e' => e e'.symm)]
    exact h.2.2 v hq.1
