/-! BOTH: declare -/
abbrev kyOK (x2 x3 x4 : Int) : Prop := (x3 = 0 ∧ 1 ≤ x4 ∧ x4 ≤ x2) ∨ (x3 ≠ 0 ∧ x4 = x2 - 1)
theorem isKey_n {x2 x3 x4 : Int} (h2 : 1 ≤ x2 ∧ x2 ≤ 3) : (kyOK x2 x3 x4 ∧ f_Dm_isKey x2 x3 x4 = some 1) ∨ (¬ kyOK x2 x3 x4 ∧ f_Dm_isKey x2 x3 x4 = some 0) := by
  unfold f_Dm_isKey f_Dm_isKey_18
  by_cases q3 : x3 = 0
  · rw [if_pos q3]
    by_cases q4 : x4 < 1
    · rw [if_pos q4]; exact Or.inr ⟨by omega, rfl⟩
    · rw [if_neg q4]
      by_cases q5 : x2 < x4
      · rw [if_pos q5]; exact Or.inr ⟨by omega, rfl⟩
      · rw [if_neg q5]; exact Or.inl ⟨by omega, rfl⟩
  · rw [if_neg q3, wr_of (x := x2 - 1) ⟨by omega, by omega⟩]
    by_cases q4 : x4 = x2 - 1
    · rw [if_pos q4]; exact Or.inl ⟨Or.inr ⟨q3, q4⟩, rfl⟩
    · rw [if_neg q4]; exact Or.inr ⟨by omega, rfl⟩
theorem mask_n : ∀ k : Nat, 1 ≤ k → k ≤ 3 → ixor (ishl 127 (wr ((wr (2 - (wr ((k : Int) - 1)))) * 7))) (-1) = mk4 k := by
  intro k h1 h2
  have : k = 1 ∨ k = 2 ∨ k = 3 := by omega
  rcases this with rfl | rfl | rfl
  · decide +kernel
  · decide +kernel
  · decide +kernel
def noteW (w : World) (q k : Nat) (x3 x4 : Int) : World := up (up (up (up w 3 q (k : Int)) 4 q x3) 5 q x4) 6 q (mk4 (if x3 = 0 then 0 else k))
theorem note_n {w : World} {q k : Nat} {x3 x4 : Int} (hq : q < 10) (h1 : 1 ≤ k) (h2 : k ≤ 3) : f_Sc_note w (q : Int) (k : Int) x3 x4 = some (noteW w q k x3 x4) := by
  have hm := mask_n k h1 h2
  unfold f_Sc_note f_Sc_note_56 f_Dm_shiftOf noteW
  rw [if_neg (by omega), if_neg (by omega), gd_t ⟨by omega, by omega⟩, bl_s, gd_t ⟨by omega, by omega⟩, bl_s, gd_t ⟨by omega, by omega⟩, bl_s, gd_t ⟨by omega, by omega⟩, bl_s, bnd_s, gd_t ⟨by omega, by omega⟩, bl_s, hm, Int.toNat_natCast]
  by_cases q3 : x3 = 0
  · rw [if_pos q3, if_pos q3]; rfl
  · rw [if_neg q3, if_neg q3]
def declW (w : World) (q k : Nat) (x3 x4 : Int) : World := up (up (up (up (up w 1 0 0) 2 q 1) 3 q (k : Int)) 4 q x3) 5 q x4
theorem decl_sch {wA wB : World} {q k : Nat} {x3 x4 : Int} (hq : q < 10) (h0 : wA 3 q = 0) (h1 : 1 ≤ k) (h2 : k ≤ 3) (h3 : 0 ≤ x3 ∧ x3 ≤ 3) (hk : kyOK (k : Int) x3 x4) (hS : ISch wA wB) : ISch (noteW wA q k x3 x4) (declW wB q k x3 x4) := by
  have oA : ∀ c r, r ≠ q → noteW wA q k x3 x4 c r = wA c r := fun c r h => by
    unfold noteW
    simp [up, h]
  have oB : ∀ c r, c ≠ 1 → r ≠ q → declW wB q k x3 x4 c r = wB c r := fun c r h1 h => by
    unfold declW
    simp [up, h, h1]
  have a3 : noteW wA q k x3 x4 3 q = (k : Int) := by unfold noteW; simp [up]
  have a4 : noteW wA q k x3 x4 4 q = x3 := by unfold noteW; simp [up]
  have a5 : noteW wA q k x3 x4 5 q = x4 := by unfold noteW; simp [up]
  have a6 : noteW wA q k x3 x4 6 q = mk4 (if x3 = 0 then 0 else k) := by unfold noteW; simp [up]
  have b2 : declW wB q k x3 x4 2 q = 1 := by unfold declW; simp [up]
  have b3 : declW wB q k x3 x4 3 q = (k : Int) := by unfold declW; simp [up]
  have b4 : declW wB q k x3 x4 4 q = x3 := by unfold declW; simp [up]
  have b5 : declW wB q k x3 x4 5 q = x4 := by unfold declW; simp [up]
  have g : GrD (SA wA) (SA (noteW wA q k x3 x4)) (q : Int) := SA_grow hq h0 (fun c r _ _ h => oA c r h)
  refine ⟨fun r hr => ?_, fun r hr => ?_⟩
  · by_cases e : r = q
    · subst e
      have hkq : (SA (noteW wA r k x3 x4)).kq (r : Int) = if x3 = 0 then 0 else k := by
        unfold SH.kq
        rw [SA_co hq, SA_ki hq, a3, a4, Int.toNat_natCast]
        by_cases z : x3 = 0
        · rw [if_pos z, if_pos (by omega)]
        · rw [if_neg z, if_neg (by omega)]
      rw [a3, a4, a5, a6, hkq]
      exact ⟨by omega, h3, by omega, fun _ => ⟨rfl, by omega, by omega⟩, by omega⟩
    · have := hS.1 r hr
      rw [oA 3 r e, oA 4 r e, oA 5 r e, oA 6 r e, g.kqq (show (r : Int) ≠ (q : Int) by omega)]
      exact this
  · by_cases e : r = q
    · subst e
      rw [a3, a4, a5, b2, b3, b4, b5, if_neg (by omega)]
      exact ⟨rfl, rfl, rfl, rfl⟩
    · rw [oA 3 r e, oA 4 r e, oA 5 r e, oB 2 r (by decide) e, oB 3 r (by decide) e, oB 4 r (by decide) e, oB 5 r (by decide) e]
      exact hS.2 r hr
theorem st_declare : St_declare II := by
  intro wA wB hII x1 x2 x3 x4 _ _ _ _
  obtain ⟨nF, m, d, now, top, L, g, hI⟩ := id hII
  have i1 := hI.1
  have hno : ∀ x : Int, ¬ x = 0 → f_Re_declare_100 wB x1 x2 x3 x4 x = some (up wB 1 0 x) := fun x hx => by
    unfold f_Re_declare_100
    exact ref_no (f := fun v => gd (0 ≤ x1 ∧ x1 < 10) (bl (up v 2 x1.toNat 1) fun w7 => gd (0 ≤ x1 ∧ x1 < 10) (bl (up w7 3 x1.toNat x2) fun w9 => gd (0 ≤ x1 ∧ x1 < 10) (bl (up w9 4 x1.toNat x3) fun w11 => gd (0 ≤ x1 ∧ x1 < 10) (bl (up w11 5 x1.toNat x4) fun w13 => some w13))))) (g := fun v => some v) hx
  have h24 : ∀ s : Int, f_Re_declare_24 wB x1 x2 x3 x4 s = if (1 ≤ x2 ∧ x2 ≤ 3) ∧ kyOK x2 x3 x4 then f_Re_declare_65 wB x1 x2 x3 x4 s 1 else f_Re_declare_65 wB x1 x2 x3 x4 s 0 := fun s => by
    unfold f_Re_declare_24 f_Re_declare_64 f_Re_declare_60
    rw [inB_n, bnd_s]
    by_cases q2 : 1 ≤ x2 ∧ x2 ≤ 3
    · rw [if_pos q2, if_neg z10]
      by_cases q3 : x3 = 0
      · rw [if_pos q3, inB_n, bnd_s]
        by_cases q4 : 1 ≤ x4 ∧ x4 ≤ x2
        · rw [if_pos q4, if_neg z10, if_pos ⟨q2, Or.inl ⟨q3, q4⟩⟩]
        · rw [if_neg q4, if_pos rfl, if_neg (fun z => z.2.elim (fun y => q4 y.2) (fun y => y.1 q3))]
      · rw [if_neg q3, wr_of (x := x2 - 1) ⟨by omega, by omega⟩]
        by_cases q4 : x4 = x2 - 1
        · rw [if_pos q4, if_pos ⟨q2, Or.inr ⟨q3, q4⟩⟩]
        · rw [if_neg q4, if_neg (fun z => z.2.elim (fun y => q3 y.1) (fun y => q4 y.2))]
    · rw [if_neg q2, if_pos rfl, if_neg (fun z => q2 z.1)]
  by_cases q1 : (0 ≤ x1 ∧ x1 ≤ 9) ∧ (0 ≤ x3 ∧ x3 ≤ 3)
  · have hB : f_Re_declare wB x1 x2 x3 x4 = f_Re_declare_24 wB x1 x2 x3 x4 1 := by
      unfold f_Re_declare
      rw [inB_n, bnd_s, if_pos q1.1, if_neg z10, inB_n, bnd_s, if_pos q1.2, if_neg z10]
    obtain ⟨q, rfl⟩ : ∃ q : Nat, x1 = (q : Int) := ⟨x1.toNat, by omega⟩
    have hq : q < 10 := by omega
    by_cases q2 : (1 ≤ x2 ∧ x2 ≤ 3) ∧ kyOK x2 x3 x4
    · obtain ⟨k, rfl⟩ : ∃ k : Nat, x2 = (k : Int) := ⟨x2.toNat, by omega⟩
      have hA : f_Dm_declare wA (q : Int) (k : Int) x3 x4 = (bnd (f_Sc_isDeclared wA (q : Int)) fun v19 => if v19 = 0 then (bnd (f_Sc_note wA (q : Int) (k : Int) x3 x4) fun v24 => some (v24, 0, 0)) else (some (wA, 3, 0))) := by
        unfold f_Dm_declare
        rcases isKey_n (x3 := x3) (x4 := x4) q2.1 with ⟨-, h⟩ | ⟨h, -⟩
        · rw [if_neg (by omega), if_neg (by omega), if_neg (by omega), if_pos (by omega), if_neg (by omega), if_neg (by omega), h, bnd_s, if_neg z10]
        · exact absurd q2.2 h
      have hB2 : f_Re_declare wB (q : Int) (k : Int) x3 x4 = if wB 2 q = 0 then f_Re_declare_100 wB (q : Int) (k : Int) x3 x4 0 else f_Re_declare_100 wB (q : Int) (k : Int) x3 x4 3 := by
        rw [hB, h24, if_pos q2]
        unfold f_Re_declare_65
        rw [if_neg z10, if_neg z10, gd_t ⟨by omega, by omega⟩, Int.toNat_natCast]
      rcases decl_both i1 (q : Int) with ⟨r, hr, h10, hd, h1, h2⟩ | ⟨hz, h1, h2⟩
      · have : r = q := by omega
        subst this
        have e2 : wB 2 r = 1 := by rw [(i1.2 r h10).2.2.2, if_neg (by omega)]
        exact no_w (e := 3) (x := 3) (fun e => e = 0 ∨ e = 1 ∨ e = 2 ∨ e = 3) hII (by rw [hA, h1, bnd_s, if_neg z10]) (by rw [hB2, e2, if_neg z10, hno 3 z30]) rfl (Or.inr (Or.inr (Or.inr rfl)))
      · have hz := hz q rfl hq
        have e2 : wB 2 q = 0 := by rw [(i1.2 q hq).2.2.2, if_pos hz]
        refine ⟨(noteW wA q k x3 x4, 0, 0), declW wB q k x3 x4, ?_, ?_, ?_, Or.inl rfl, nF, m, d, now, top, L, g, ?_⟩
        · rw [hA, h1, bnd_s, if_pos rfl, note_n hq (by omega) (by omega), bnd_s]
        · rw [hB2, e2, if_pos rfl]
          unfold f_Re_declare_100
          rw [ref_ok (f := fun v => gd (0 ≤ (q : Int) ∧ (q : Int) < 10) (bl (up v 2 (q : Int).toNat 1) fun w7 => gd (0 ≤ (q : Int) ∧ (q : Int) < 10) (bl (up w7 3 (q : Int).toNat (k : Int)) fun w9 => gd (0 ≤ (q : Int) ∧ (q : Int) < 10) (bl (up w9 4 (q : Int).toNat x3) fun w11 => gd (0 ≤ (q : Int) ∧ (q : Int) < 10) (bl (up w11 5 (q : Int).toNat x4) fun w13 => some w13))))) (g := fun v => some v), gd_t ⟨by omega, by omega⟩, bl_s, gd_t ⟨by omega, by omega⟩, bl_s, gd_t ⟨by omega, by omega⟩, bl_s, gd_t ⟨by omega, by omega⟩, bl_s, Int.toNat_natCast]
          rfl
        · unfold f_Re_thrown declW
          simp [up]
          rfl
        · refine Inv_declare (q := q) hq hz (fun c hc => ?_) (fun c r _ _ hr => ?_) (fun c h1 hc => ?_) (fun r hr => ?_) (fun c r _ _ hr => ?_) (decl_sch hq hz (by omega) (by omega) q1.2 q2.2 i1) hI
          · funext r
            unfold noteW
            simp [up, show c ≠ 3 by omega, show c ≠ 4 by omega, show c ≠ 5 by omega, show c ≠ 6 by omega]
          · unfold noteW
            simp [up, hr]
          · funext r
            unfold declW
            simp [up, h1, show c ≠ 2 by omega, show c ≠ 3 by omega, show c ≠ 4 by omega, show c ≠ 5 by omega]
          · unfold declW
            simp [up, hr]
          · unfold declW
            simp [up, hr, show c ≠ 1 by omega]
    · refine no_w (e := 2) (x := 2) (fun e => e = 0 ∨ e = 1 ∨ e = 2 ∨ e = 3) hII ?_ ?_ rfl (Or.inr (Or.inr (Or.inl rfl)))
      · unfold f_Dm_declare
        rw [if_neg (by omega), if_neg (by omega), if_neg (by omega), if_pos (by omega)]
        by_cases k1 : x2 < 1
        · rw [if_pos k1]
        · rw [if_neg k1]
          by_cases k2 : 3 < x2
          · rw [if_pos k2]
          · rw [if_neg k2]
            rcases isKey_n (x3 := x3) (x4 := x4) (x2 := x2) ⟨by omega, by omega⟩ with ⟨h, -⟩ | ⟨-, h⟩
            · exact absurd ⟨⟨by omega, by omega⟩, h⟩ q2
            · rw [h, bnd_s, if_pos rfl]
      · rw [hB, h24, if_neg q2]
        unfold f_Re_declare_65
        rw [if_neg z10, if_pos rfl, hno 2 z20]
  · refine no_w (e := 1) (x := 1) (fun e => e = 0 ∨ e = 1 ∨ e = 2 ∨ e = 3) hII ?_ ?_ rfl (Or.inr (Or.inl rfl))
    · unfold f_Dm_declare
      by_cases k1 : x1 < 0
      · rw [if_pos k1]
      · rw [if_neg k1]
        by_cases k2 : 10 ≤ x1
        · rw [if_pos k2]
        · rw [if_neg k2]
          by_cases k3 : x3 < 0
          · rw [if_pos k3]
          · rw [if_neg k3, if_neg (by omega)]
    · have h23 : f_Re_declare_23 wB x1 x2 x3 x4 = some (up wB 1 0 1) := by
        unfold f_Re_declare_23
        rw [h24]
        unfold f_Re_declare_65
        rw [if_pos rfl, if_pos rfl, hno 1 z10]
        exact ite_self _
      unfold f_Re_declare
      rw [h23, inB_n, bnd_s]
      by_cases k1 : 0 ≤ x1 ∧ x1 ≤ 9
      · rw [if_pos k1, if_neg z10, inB_n, bnd_s, if_neg (fun z => q1 ⟨k1, z⟩), if_pos rfl]
      · rw [if_neg k1, if_pos rfl]
