/-! BOTH: relations, values, terms; whether a tuple is in a model -/
theorem columns_any {w : World} (hS : WfS w) (x : Int) : (∃ r : Nat, x = (r : Int) ∧ r < 10 ∧ 1 ≤ w 3 r ∧ f_Sc_columnsOf w x = some (w 3 r)) ∨ ((∀ r : Nat, x = (r : Int) → r < 10 → w 3 r = 0) ∧ f_Sc_columnsOf w x = some 0) := by
  by_cases h : 0 ≤ x ∧ x < 10
  · have e : x = (x.toNat : Int) := by omega
    have hc := columnsOf_n (w := w) (r := x.toNat) (by omega)
    rw [← e] at hc
    by_cases q : 1 ≤ w 3 x.toNat
    · exact Or.inl ⟨x.toNat, e, by omega, q, hc⟩
    · have := (hS x.toNat (by omega)).1
      have e0 : w 3 x.toNat = 0 := by omega
      refine Or.inr ⟨fun r hr _ => ?_, by rw [hc, e0]⟩
      have : r = x.toNat := by omega
      rw [this]; exact e0
  · refine Or.inr ⟨fun r hr h10 => absurd ⟨by omega, by omega⟩ h, ?_⟩
    unfold f_Sc_columnsOf
    by_cases q : x < 0
    · rw [if_pos q]
    · rw [if_neg q, if_pos (by omega)]
theorem decl_both {wA wB : World} (h : ISch wA wB) (x : Int) : (∃ r : Nat, x = (r : Int) ∧ r < 10 ∧ 1 ≤ wA 3 r ∧ f_Sc_isDeclared wA x = some 1 ∧ f_Re_isRelation wB x = some 1) ∨ ((∀ r : Nat, x = (r : Int) → r < 10 → wA 3 r = 0) ∧ f_Sc_isDeclared wA x = some 0 ∧ f_Re_isRelation wB x = some 0) := by
  unfold f_Sc_isDeclared f_Re_isRelation f_Re_in
  rcases columns_any h.1 x with ⟨r, hr, h10, h1, h2⟩ | ⟨h1, h2⟩
  · refine Or.inl ⟨r, hr, h10, h1, ?_, ?_⟩
    · rw [h2, bnd_s, if_neg (by omega)]
    · have e2 : wB 2 r = 1 := by rw [(h.2 r h10).2.2.2, if_neg (by omega)]
      rw [if_neg (by omega), if_neg (by omega), bnd_s, if_neg (by decide), gd_t ⟨by omega, by omega⟩, hr, Int.toNat_natCast, e2, if_neg (by decide)]
  · refine Or.inr ⟨h1, ?_, ?_⟩
    · rw [h2, bnd_s, if_pos (Int.le_refl _)]
    · by_cases q : x < 0
      · rw [if_pos q, bnd_s, if_pos rfl]
      · rw [if_neg q]
        by_cases q2 : 9 < x
        · rw [if_pos q2, bnd_s, if_pos rfl]
        · have e : x = (x.toNat : Int) := by omega
          have e2 : wB 2 x.toNat = 0 := by rw [(h.2 x.toNat (by omega)).2.2.2, if_pos (h1 x.toNat e (by omega))]
          rw [if_neg q2, bnd_s, if_neg (by decide), gd_t ⟨by omega, by omega⟩, e2, if_pos rfl]
/-- what a column may have: 0 values, 1 terms, 2 values or FREE -/
def okC (so : Nat) (co j : Nat) (v : Int) : Prop := if co ≤ j then v = 0 else if so = 1 then -8 ≤ v ∧ v ≤ 127 else if so = 2 then (0 ≤ v ∧ v ≤ 127) ∨ v = -9 else 0 ≤ v ∧ v ≤ 127
theorem okC_ge {so co j : Nat} {v : Int} (h : co ≤ j) : okC so co j v ↔ v = 0 := by unfold okC; rw [if_pos h]
theorem okC_lt {so co j : Nat} {v : Int} (h : ¬ co ≤ j) : okC so co j v ↔ (if so = 1 then -8 ≤ v ∧ v ≤ 127 else if so = 2 then (0 ≤ v ∧ v ≤ 127) ∨ v = -9 else 0 ≤ v ∧ v ≤ 127) := by unfold okC; rw [if_neg h]
theorem okC_l0 {co j : Nat} {v : Int} (h : ¬ co ≤ j) : okC 0 co j v ↔ 0 ≤ v ∧ v ≤ 127 := okC_lt h
theorem okC_l1 {co j : Nat} {v : Int} (h : ¬ co ≤ j) : okC 1 co j v ↔ -8 ≤ v ∧ v ≤ 127 := okC_lt h
theorem okC_l2 {co j : Nat} {v : Int} (h : ¬ co ≤ j) : okC 2 co j v ↔ (0 ≤ v ∧ v ≤ 127) ∨ v = -9 := okC_lt h
theorem picked_n {x y z : Int} {j : Nat} (hj : j < 3) : f_Dm_picked (j : Int) x y z = some (pick x y z j) := by
  unfold f_Dm_picked pick
  have : j = 0 ∨ j = 1 ∨ j = 2 := by omega
  rcases this with rfl | rfl | rfl <;> rfl
theorem permits_n {w : World} {r so : Nat} {x y z : Int} (hS : WfS w) (hr : r < 10) (hso : so ≤ 2) : ∃ v, f_Sc_permits w (r : Int) (so : Int) x y z = some v ∧ ((v = 1 ∧ ∀ j, j < 3 → okC so (w 3 r).toNat j (pick x y z j)) ∨ (v = 0 ∧ ¬ ∀ j, j < 3 → okC so (w 3 r).toNat j (pick x y z j))) := by
  have h3 := (hS r hr).1
  have body : ∀ (j : Nat) (a : Int), j < 3 → (a = 0 ∨ a = 1) → ∃ a', f_Sc_permits_6B w (r : Int) (so : Int) x y z a (j : Int) = some (Sum.inl (a', ((j + 1 : Nat) : Int))) ∧ (a' = 0 ∨ a' = 1) ∧ (a' = 1 ↔ a = 1 ∧ okC so (w 3 r).toNat j (pick x y z j)) := fun j a hj ha => by
    have out : ∀ a : Int, f_Sc_permits_61 w (r : Int) (so : Int) x y z (j : Int) a = some (Sum.inl (a, ((j + 1 : Nat) : Int))) := fun a => by
      unfold f_Sc_permits_61
      rw [bl_s, wr_of (x := (j : Int) + 1) ⟨by omega, by omega⟩]
      rfl
    obtain ⟨p, hp⟩ : ∃ p, p = pick x y z j := ⟨_, rfl⟩
    unfold f_Sc_permits_6B f_Sc_permits_60 f_Sc_permits_56
    rw [if_neg (by omega), picked_n hj, bnd_s, out, out, ← hp]
    by_cases a0 : a = 0
    · rw [if_pos a0]; exact ⟨0, rfl, Or.inl rfl, ⟨fun q => absurd q (by decide), fun q => by omega⟩⟩
    · rw [if_neg a0, columnsOf_n hr, bnd_s]
      have a1 : a = 1 := ha.resolve_left a0
      by_cases q : w 3 r ≤ (j : Int)
      · rw [if_pos q]
        rw [okC_ge (show (w 3 r).toNat ≤ j by omega)]
        by_cases p0 : p = 0
        · rw [if_pos p0]; exact ⟨1, rfl, Or.inr rfl, ⟨fun _ => ⟨a1, p0⟩, fun _ => rfl⟩⟩
        · rw [if_neg p0]; exact ⟨0, rfl, Or.inl rfl, ⟨fun q => absurd q (by decide), fun q => absurd q.2 p0⟩⟩
      · rw [if_neg q]
        rw [okC_lt (show ¬ (w 3 r).toNat ≤ j by omega)]
        have hperm : ∃ v, f_Dm_isPermitted (so : Int) p = some v ∧ ((v = 0 ∧ ¬ (if so = 1 then -8 ≤ p ∧ p ≤ 127 else if so = 2 then (0 ≤ p ∧ p ≤ 127) ∨ p = -9 else 0 ≤ p ∧ p ≤ 127)) ∨ (v = 1 ∧ (if so = 1 then -8 ≤ p ∧ p ≤ 127 else if so = 2 then (0 ≤ p ∧ p ≤ 127) ∨ p = -9 else 0 ≤ p ∧ p ≤ 127))) := by
          have hval : f_Dm_isValue p = some (if 0 ≤ p ∧ p ≤ 127 then 1 else 0) := by
            unfold f_Dm_isValue
            by_cases q1 : p < 0
            · rw [if_pos q1, if_neg (by omega)]
            · rw [if_neg q1]
              by_cases q2 : 127 < p
              · rw [if_pos q2, if_neg (by omega)]
              · rw [if_neg q2, if_pos (by omega)]
          have hterm : f_Dm_isTerm p = some (if -8 ≤ p ∧ p ≤ 127 then 1 else 0) := by
            unfold f_Dm_isTerm
            by_cases q1 : p < -8
            · rw [if_pos q1, if_neg (by omega)]
            · rw [if_neg q1]
              by_cases q2 : 127 < p
              · rw [if_pos q2, if_neg (by omega)]
              · rw [if_neg q2, if_pos (by omega)]
          unfold f_Dm_isPermitted f_Dm_isPermitted_19 f_Dm_isPermitted_30
          rw [hval, bnd_s]
          by_cases q1 : 0 ≤ p ∧ p ≤ 127
          · rw [if_pos q1, if_neg (by decide)]
            refine ⟨1, rfl, Or.inr ⟨rfl, ?_⟩⟩
            split
            · omega
            · split
              · exact Or.inl q1
              · exact q1
          · rw [if_neg q1, if_pos rfl]
            by_cases s1 : so = 1
            · rw [if_pos (by omega), hterm, bnd_s, if_pos s1]
              by_cases q2 : -8 ≤ p ∧ p ≤ 127
              · rw [if_pos q2, if_neg (by decide)]; exact ⟨1, rfl, Or.inr ⟨rfl, q2⟩⟩
              · rw [if_neg q2, if_pos rfl, if_neg (by omega)]; exact ⟨0, rfl, Or.inl ⟨rfl, q2⟩⟩
            · rw [if_neg (by omega), if_neg s1]
              by_cases s2 : so = 2
              · rw [if_pos (by omega), if_pos s2]
                by_cases q2 : p = -9
                · rw [if_pos q2]; exact ⟨1, rfl, Or.inr ⟨rfl, Or.inr q2⟩⟩
                · rw [if_neg q2]; exact ⟨0, rfl, Or.inl ⟨rfl, fun k => k.elim q1 q2⟩⟩
              · rw [if_neg (by omega), if_neg s2]; exact ⟨0, rfl, Or.inl ⟨rfl, q1⟩⟩
        obtain ⟨v, hv, hv2⟩ := hperm
        rw [hv, bnd_s]
        rcases hv2 with ⟨rfl, h⟩ | ⟨rfl, h⟩
        · rw [if_pos rfl]; exact ⟨0, rfl, Or.inl rfl, ⟨fun q => absurd q (by decide), fun q => absurd q.2 h⟩⟩
        · rw [if_neg (by decide)]; exact ⟨1, rfl, Or.inr rfl, ⟨fun _ => ⟨a1, h⟩, fun _ => rfl⟩⟩
  obtain ⟨a1, e1, b1, c1⟩ := body 0 1 (by omega) (Or.inr rfl)
  obtain ⟨a2, e2, b2, c2⟩ := body 1 a1 (by omega) b1
  obtain ⟨a3, e3, b3, c3⟩ := body 2 a2 (by omega) b2
  have hrun : f_Sc_permits w (r : Int) (so : Int) x y z = some a3 := by
    have s1 : f_Sc_permits_6B w (r : Int) (so : Int) x y z 1 0 = some (Sum.inl (a1, ((0 + 1 : Nat) : Int))) := e1
    unfold f_Sc_permits f_Sc_permits_6
    rw [lp_step (F := fun z' : (Int × Int) => f_Sc_permits_6B w (r : Int) (so : Int) x y z z'.1 z'.2) (s := ((1 : Int), (0 : Int))) s1, lp_step (F := fun z' : (Int × Int) => f_Sc_permits_6B w (r : Int) (so : Int) x y z z'.1 z'.2) e2, lp_step (F := fun z' : (Int × Int) => f_Sc_permits_6B w (r : Int) (so : Int) x y z z'.1 z'.2) e3]
    refine lp_out ?_
    show f_Sc_permits_6B w (r : Int) (so : Int) x y z a3 ((2 + 1 : Nat) : Int) = _
    unfold f_Sc_permits_6B
    rw [if_pos (by decide), gd_t b3]
  have hall : a3 = 1 ↔ ∀ j, j < 3 → okC so (w 3 r).toNat j (pick x y z j) := by
    rw [c3, c2, c1]
    constructor
    · rintro ⟨⟨⟨-, h0⟩, h1⟩, h2⟩ j hj
      have : j = 0 ∨ j = 1 ∨ j = 2 := by omega
      rcases this with rfl | rfl | rfl
      · exact h0
      · exact h1
      · exact h2
    · intro h
      exact ⟨⟨⟨rfl, h 0 (by omega)⟩, h 1 (by omega)⟩, h 2 (by omega)⟩
  refine ⟨a3, hrun, ?_⟩
  rcases b3 with q | q
  · exact Or.inr ⟨q, fun h => by have := hall.mpr h; omega⟩
  · exact Or.inl ⟨q, hall.mp q⟩
theorem inB_n {x a b : Int} : f_Re_in x a b = some (if a ≤ x ∧ x ≤ b then 1 else 0) := by
  unfold f_Re_in
  by_cases q1 : x < a
  · rw [if_pos q1, if_neg (by omega)]
  · rw [if_neg q1]
    by_cases q2 : b < x
    · rw [if_pos q2, if_neg (by omega)]
    · rw [if_neg q2, if_pos (by omega)]
/-- three columns, one by one -/
theorem three {P : Nat → Prop} : (∀ j, j < 3 → P j) ↔ P 0 ∧ P 1 ∧ P 2 := by
  constructor
  · intro h; exact ⟨h 0 (by omega), h 1 (by omega), h 2 (by omega)⟩
  · rintro ⟨h0, h1, h2⟩ j hj
    have : j = 0 ∨ j = 1 ∨ j = 2 := by omega
    rcases this with rfl | rfl | rfl
    · exact h0
    · exact h1
    · exact h2
theorem areValues_n {w : World} {r : Nat} {x y z : Int} {fr : Int} {so : Nat} (hT : WfT w) (hr : r < 10) (hf : (fr = 0 ∧ so = 0) ∨ (fr = 1 ∧ so = 2)) : ∃ v, f_Re_areValues w (r : Int) x y z fr = some v ∧ ((v = 1 ∧ ∀ j, j < 3 → okC so (w 3 r).toNat j (pick x y z j)) ∨ (v = 0 ∧ ¬ ∀ j, j < 3 → okC so (w 3 r).toNat j (pick x y z j))) := by
  have h3 := (hT r hr).1
  have one : ∀ (v : Int) (j : Nat), j < 3 → ∃ a, f_Re_isValue w (r : Int) v (j : Int) fr = some a ∧ ((a = 1 ∧ okC so (w 3 r).toNat j v) ∨ (a = 0 ∧ ¬ okC so (w 3 r).toNat j v)) := fun v j hj => by
    unfold f_Re_isValue f_Re_isValue_31 f_Re_isValue_35
    rw [gd_t ⟨by omega, by omega⟩, Int.toNat_natCast]
    by_cases q : w 3 r ≤ (j : Int)
    · rw [if_pos q, okC_ge (show (w 3 r).toNat ≤ j by omega)]
      by_cases v0 : v = 0
      · rw [if_pos v0]; exact ⟨1, rfl, Or.inl ⟨rfl, v0⟩⟩
      · rw [if_neg v0]; exact ⟨0, rfl, Or.inr ⟨rfl, v0⟩⟩
    · have q' : ¬ (w 3 r).toNat ≤ j := by omega
      rw [if_neg q, inB_n, bnd_s]
      by_cases q2 : 0 ≤ v ∧ v ≤ 127
      · rw [if_pos q2, if_neg (by decide)]
        refine ⟨1, rfl, Or.inl ⟨rfl, ?_⟩⟩
        rcases hf with ⟨-, e⟩ | ⟨-, e⟩ <;> subst e
        · exact (okC_l0 q').mpr q2
        · exact (okC_l2 q').mpr (Or.inl q2)
      · rw [if_neg q2, if_pos rfl]
        rcases hf with ⟨e1, e⟩ | ⟨e1, e⟩ <;> subst e
        · rw [if_pos e1]; exact ⟨0, rfl, Or.inr ⟨rfl, fun k => q2 ((okC_l0 q').mp k)⟩⟩
        · rw [if_neg (by omega)]
          by_cases v9 : v = -9
          · rw [if_pos v9]; exact ⟨1, rfl, Or.inl ⟨rfl, (okC_l2 q').mpr (Or.inr v9)⟩⟩
          · rw [if_neg v9]; exact ⟨0, rfl, Or.inr ⟨rfl, fun k => ((okC_l2 q').mp k).elim q2 v9⟩⟩
  obtain ⟨a0, e0, b0⟩ := one x 0 (by omega)
  obtain ⟨a1, e1, b1⟩ := one y 1 (by omega)
  obtain ⟨a2, e2, b2⟩ := one z 2 (by omega)
  have e0 : f_Re_isValue w (r : Int) x 0 fr = some a0 := e0
  have e1 : f_Re_isValue w (r : Int) y 1 fr = some a1 := e1
  have e2 : f_Re_isValue w (r : Int) z 2 fr = some a2 := e2
  rw [three]
  unfold f_Re_areValues
  rw [e0, bnd_s]
  rcases b0 with ⟨rfl, b0⟩ | ⟨rfl, b0⟩
  · rw [if_neg (by decide), e1, bnd_s]
    rcases b1 with ⟨rfl, b1⟩ | ⟨rfl, b1⟩
    · rw [if_neg (by decide), e2, bnd_s]
      rcases b2 with ⟨rfl, b2⟩ | ⟨rfl, b2⟩
      · rw [if_neg (by decide)]; exact ⟨1, rfl, Or.inl ⟨rfl, b0, b1, b2⟩⟩
      · rw [if_pos rfl]; exact ⟨0, rfl, Or.inr ⟨rfl, fun k => b2 k.2.2⟩⟩
    · rw [if_pos rfl]; exact ⟨0, rfl, Or.inr ⟨rfl, fun k => b1 k.2.1⟩⟩
  · rw [if_pos rfl]; exact ⟨0, rfl, Or.inr ⟨rfl, fun k => b0 k.1⟩⟩
theorem areTerms_n {w : World} {r : Nat} {x y z : Int} (hT : WfT w) (hr : r < 10) : ∃ v, f_Re_areTerms w (r : Int) x y z = some v ∧ ((v = 1 ∧ ∀ j, j < 3 → okC 1 (w 3 r).toNat j (pick x y z j)) ∨ (v = 0 ∧ ¬ ∀ j, j < 3 → okC 1 (w 3 r).toNat j (pick x y z j))) := by
  have h3 := (hT r hr).1
  have one : ∀ (v : Int) (j : Nat), j < 3 → ∃ a, f_Re_isTerm w (r : Int) v (j : Int) = some a ∧ ((a = 1 ∧ okC 1 (w 3 r).toNat j v) ∨ (a = 0 ∧ ¬ okC 1 (w 3 r).toNat j v)) := fun v j hj => by
    unfold f_Re_isTerm
    rw [gd_t ⟨by omega, by omega⟩, Int.toNat_natCast]
    by_cases q : w 3 r ≤ (j : Int)
    · rw [if_pos q, okC_ge (show (w 3 r).toNat ≤ j by omega)]
      by_cases v0 : v = 0
      · rw [if_pos v0]; exact ⟨1, rfl, Or.inl ⟨rfl, v0⟩⟩
      · rw [if_neg v0]; exact ⟨0, rfl, Or.inr ⟨rfl, v0⟩⟩
    · rw [if_neg q, okC_l1 (show ¬ (w 3 r).toNat ≤ j by omega), inB_n, bnd_s]
      by_cases q2 : -8 ≤ v ∧ v ≤ 127
      · rw [if_pos q2, gd_t (Or.inr rfl)]; exact ⟨1, rfl, Or.inl ⟨rfl, q2⟩⟩
      · rw [if_neg q2, gd_t (Or.inl rfl)]; exact ⟨0, rfl, Or.inr ⟨rfl, q2⟩⟩
  obtain ⟨a0, e0, b0⟩ := one x 0 (by omega)
  obtain ⟨a1, e1, b1⟩ := one y 1 (by omega)
  obtain ⟨a2, e2, b2⟩ := one z 2 (by omega)
  have e0 : f_Re_isTerm w (r : Int) x 0 = some a0 := e0
  have e1 : f_Re_isTerm w (r : Int) y 1 = some a1 := e1
  have e2 : f_Re_isTerm w (r : Int) z 2 = some a2 := e2
  rw [three]
  unfold f_Re_areTerms
  rw [e0, bnd_s]
  rcases b0 with ⟨rfl, b0⟩ | ⟨rfl, b0⟩
  · rw [if_neg (by decide), e1, bnd_s]
    rcases b1 with ⟨rfl, b1⟩ | ⟨rfl, b1⟩
    · rw [if_neg (by decide), e2, bnd_s]
      rcases b2 with ⟨rfl, b2⟩ | ⟨rfl, b2⟩
      · rw [if_neg (by decide)]; exact ⟨1, rfl, Or.inl ⟨rfl, b0, b1, b2⟩⟩
      · rw [if_pos rfl]; exact ⟨0, rfl, Or.inr ⟨rfl, fun k => b2 k.2.2⟩⟩
    · rw [if_pos rfl]; exact ⟨0, rfl, Or.inr ⟨rfl, fun k => b1 k.2.1⟩⟩
  · rw [if_pos rfl]; exact ⟨0, rfl, Or.inr ⟨rfl, fun k => b0 k.1⟩⟩
/-- a tuple of numbers is in a set -/
def Hs (M : MM) (r : Int) (x y z : Int) : Prop := ∃ k, M r k ∧ ∀ j, j < 3 → ((clm k j : Nat) : Int) = pick x y z j
/-- permitted values make a packed tuple -/
theorem ok_pk {co : Nat} {x y z : Int} (h : ∀ j, j < 3 → okC 0 co j (pick x y z j)) : ∃ a b c : Nat, x = (a : Int) ∧ y = (b : Int) ∧ z = (c : Int) ∧ a < 128 ∧ b < 128 ∧ c < 128 := by
  have h0 : okC 0 co 0 x := h 0 (by omega)
  have h1 : okC 0 co 1 y := h 1 (by omega)
  have h2 : okC 0 co 2 z := h 2 (by omega)
  have e : ∀ {j : Nat} {v : Int}, okC 0 co j v → 0 ≤ v ∧ v ≤ 127 := fun {j v} h => by
    by_cases q : co ≤ j
    · have := (okC_ge q).mp h; omega
    · exact (okC_l0 q).mp h
  have := e h0; have := e h1; have := e h2
  exact ⟨x.toNat, y.toNat, z.toNat, by omega, by omega, by omega, by omega, by omega, by omega⟩
theorem isInA_n {w : World} {t N r : Nat} {ρ c : Nat → Nat} {Lc : Nat → List Nat} {x y z : Int} (hS : WfS w) (hA : AMod w t N ρ c Lc) (hV : VCs w N ρ c) (hr : r < 10) (hd : 1 ≤ w 3 r) : ∃ v, f_Dm_isIn w t (r : Int) x y z = some v ∧ ((v = 1 ∧ Hs (AM N ρ c) (r : Int) x y z) ∨ (v = 0 ∧ ¬ Hs (AM N ρ c) (r : Int) x y z)) := by
  obtain ⟨p, hp, hp2⟩ := permits_n (so := 0) (x := x) (y := y) (z := z) hS hr (by omega)
  have hp : f_Sc_permits w (r : Int) 0 x y z = some p := hp
  unfold f_Dm_isIn
  rw [hp, bnd_s]
  rcases hp2 with ⟨rfl, h⟩ | ⟨rfl, h⟩
  · obtain ⟨a, b, d, rfl, rfl, rfl, ha, hb, hc⟩ := ok_pk h
    have hm := pkq_lt ha hb hc
    have hH : Hs (AM N ρ c) (r : Int) (a : Int) (b : Int) (d : Int) ↔ AM N ρ c (r : Int) (pk a b d) := by
      constructor
      · rintro ⟨k, hk, hj⟩
        have hk2 := ((AM_OkM hA).1 _ _ hk).1
        have e : k = pk a b d := clm_inj hk2 hm (three.mpr ⟨by have := hj 0 (by omega); show cl0 k = cl0 _; rw [cl0_pk ha hb hc]; exact Int.ofNat.inj this, by have := hj 1 (by omega); show cl1 k = cl1 _; rw [cl1_pk ha hb hc]; exact Int.ofNat.inj this, by have := hj 2 (by omega); show cl2 k = cl2 _; rw [cl2_pk ha hb hc]; exact Int.ofNat.inj this⟩)
        rw [← e]; exact hk
      · intro hk
        exact ⟨_, hk, three.mpr ⟨by show ((cl0 _ : Nat) : Int) = _; rw [cl0_pk ha hb hc]; rfl, by show ((cl1 _ : Nat) : Int) = _; rw [cl1_pk ha hb hc]; rfl, by show ((cl2 _ : Nat) : Int) = _; rw [cl2_pk ha hb hc]; rfl⟩⟩
    rw [if_neg (by decide), packed_n ha hb hc, bnd_s, hH]
    unfold f_Mo_has
    rcases slotLike_n hS hA hr hd hm with ⟨s, hs, hρ, hz, he⟩ | ⟨hz, he⟩
    · have hsl := hA.2.2.2.2.1 s hs
      have h48 := hA.2.1
      rw [he, bnd_s, if_neg (by omega), codeOf_n (by omega), bnd_s, hsl.2.1]
      by_cases q : c s = pk a b d
      · rw [if_pos (by rw [q]), bnd_s, if_neg (by decide)]
        exact ⟨1, rfl, Or.inl ⟨rfl, s, hs, by rw [hρ], q⟩⟩
      · rw [if_neg (show ¬ ((c s : Int) = ((pk a b d : Nat) : Int)) from fun e => q (by omega)), bnd_s, if_pos rfl]
        refine ⟨0, rfl, Or.inr ⟨rfl, fun hk => q ?_⟩⟩
        exact (AM_OkM hA).2 (r : Int) _ _ ⟨s, hs, by rw [hρ], rfl⟩ hk hz
    · rw [he, bnd_s, if_pos rfl, bnd_s, if_pos rfl]
      refine ⟨0, rfl, Or.inr ⟨rfl, ?_⟩⟩
      rintro ⟨s, hs, hρ, hc⟩
      exact hz s hs (by omega) (by rw [hc])
  · rw [if_pos rfl]
    refine ⟨0, rfl, Or.inr ⟨rfl, ?_⟩⟩
    rintro ⟨k, ⟨s, hs, hρ, rfl⟩, hj⟩
    refine h (fun j hj3 => ?_)
    have e := hj j hj3
    have hVs := hV s hs
    have hρ : ρ s = r := by omega
    rw [hρ] at hVs
    by_cases q : (w 3 r).toNat ≤ j
    · rw [okC_ge q, ← e, hVs j (by omega) hj3]; rfl
    · have := clm_lt (n := c s) (j := j)
      rw [okC_l0 q, ← e]; omega
theorem hasTuple_n {w : World} {M n r : Nat} {ρ c : Nat → Nat} {x y z : Int} (hT : WfT w) (hB : BMod w M n ρ c) (hV : VCs w n ρ c) (hr : r < 10) (hd : 1 ≤ w 3 r) : ∃ v, f_Re_hasTuple w (M : Int) (r : Int) x y z = some v ∧ ((v = 1 ∧ Hs (AM n ρ c) (r : Int) x y z) ∨ (v = 0 ∧ ¬ Hs (AM n ρ c) (r : Int) x y z)) := by
  obtain ⟨hM, hn, h49, hsl, hkey⟩ := id hB
  unfold f_Re_hasTuple
  rcases place_n (x := x) (y := y) (z := z) hT hB hr hd with ⟨s, hs, hρ, hke, hp⟩ | ⟨hno, hp⟩
  · obtain ⟨a1, a2, a3, a4, a5⟩ := hsl s hs
    have i0 : wr (3 * (wr ((wr (50 * (M : Int))) + (s : Int)))) = ((3 * (50 * M + s) + 0 : Nat) : Int) := by
      rw [wr_of (x := 50 * (M : Int)) ⟨by omega, by omega⟩, wr_of (x := 50 * (M : Int) + (s : Int)) ⟨by omega, by omega⟩, wr_of (x := 3 * (50 * (M : Int) + (s : Int))) ⟨by omega, by omega⟩]
      omega
    have i1 : wr (((3 * (50 * M + s) + 0 : Nat) : Int) + 1) = ((3 * (50 * M + s) + 1 : Nat) : Int) := by rw [wr_of (x := ((3 * (50 * M + s) + 0 : Nat) : Int) + 1) ⟨by omega, by omega⟩]; omega
    have i2 : wr (((3 * (50 * M + s) + 0 : Nat) : Int) + 2) = ((3 * (50 * M + s) + 2 : Nat) : Int) := by rw [wr_of (x := ((3 * (50 * M + s) + 0 : Nat) : Int) + 2) ⟨by omega, by omega⟩]; omega
    have uni : Hs (AM n ρ c) (r : Int) x y z → ∀ j, j < 3 → ((clm (c s) j : Nat) : Int) = pick x y z j := by
      rintro ⟨k, ⟨s', hs', hρ', rfl⟩, hj⟩
      have hρ' : ρ s' = r := by omega
      have hke' : KE w c r x y z s' := fun j hjm => by
        have hm3 : mny w r ≤ 3 := by
          have := (hT r hr).1
          unfold mny
          split <;> omega
        exact hj j (by omega)
      have e : s' = s := by
        refine Classical.byContradiction fun hne => ?_
        have h1 := hkey s' s hs' hs hne (hρ'.trans hρ.symm)
        rw [hρ'] at h1
        refine h1 ?_
        have k1 := (KE_kz (s := s') hT hr hd (hsl s' hs').2.2.2.1 a4 (by rw [← hρ']; exact hV s' hs') (by rw [← hρ]; exact hV s hs)).mp (fun j hjm => by
          rw [hke' j hjm, ← hke j hjm]
          have hm3 : mny w r ≤ 3 := by
            have := (hT r hr).1
            unfold mny
            split <;> omega
          have : j = 0 ∨ j = 1 ∨ j = 2 := by omega
          rcases this with rfl | rfl | rfl <;> rfl)
        exact k1
      subst e
      exact hj
    rw [hp, bnd_s, bl_s, if_neg (by omega), i0, gd_t ⟨by omega, by omega⟩, Int.toNat_natCast, a3 0 (by omega)]
    by_cases q0 : ((clm (c s) 0 : Nat) : Int) = x
    · rw [if_pos q0, i1, gd_t ⟨by omega, by omega⟩, Int.toNat_natCast, a3 1 (by omega)]
      by_cases q1 : ((clm (c s) 1 : Nat) : Int) = y
      · rw [if_pos q1, i2, gd_t ⟨by omega, by omega⟩, Int.toNat_natCast, a3 2 (by omega)]
        by_cases q2 : ((clm (c s) 2 : Nat) : Int) = z
        · rw [if_pos q2]
          exact ⟨1, rfl, Or.inl ⟨rfl, c s, ⟨s, hs, by rw [hρ], rfl⟩, three.mpr ⟨q0, q1, q2⟩⟩⟩
        · rw [if_neg q2]; exact ⟨0, rfl, Or.inr ⟨rfl, fun h => q2 (uni h 2 (by omega))⟩⟩
      · rw [if_neg q1]; exact ⟨0, rfl, Or.inr ⟨rfl, fun h => q1 (uni h 1 (by omega))⟩⟩
    · rw [if_neg q0]; exact ⟨0, rfl, Or.inr ⟨rfl, fun h => q0 (uni h 0 (by omega))⟩⟩
  · rw [hp, bnd_s, bl_s, if_pos rfl]
    refine ⟨0, rfl, Or.inr ⟨rfl, ?_⟩⟩
    rintro ⟨k, ⟨s', hs', hρ', rfl⟩, hj⟩
    refine hno s' hs' (by omega) (fun j hjm => hj j ?_)
    have := (hT r hr).1
    unfold mny at hjm
    split at hjm <;> omega
