/-! REFUSALS: what the class says to calls that throw; running a method over one mill -/
theorem zg_zs {z : ZQ} {m : Bool} {w : World} : zg (zs z m w) m = w := by cases m <;> rfl
theorem zs_zs {z : ZQ} {m : Bool} {w w' : World} : zs (zs z m w) m w' = zs z m w' := by cases m <;> rfl
theorem zs_n {z : ZQ} {m : Bool} {w : World} : (zs z m w).2.2 = z.2.2 := by cases m <;> rfl
theorem zs_zg {z : ZQ} {m : Bool} : zs z m (zg z m) = z := by cases m <;> rfl
def Ev (z : ZQ) (m : Bool) (wB : World) (o : Option (ZQ × Int)) (r : Int) : Prop := ∃ w', o = some (zs z m w', r) ∧ II w' wB
section EV
variable {z : ZQ} {m : Bool} {wB : World} {r : Int}
theorem Ev_bnd {f : ZQ → Bool → Option (ZQ × Int)} {k : ZQ × Int → Option (ZQ × Int)} {r1 : Int} {w : World} (ha : ActQ f wB wB r1) (hw : II w wB) (hk : ∀ w', II w' wB → Ev z m wB (k (zs z m w', r1)) r) : Ev z m wB (bnd (f (zs z m w) m) k) r := by
  obtain ⟨w', h1, h2⟩ := ha (zs z m w) m (by rw [zg_zs]; exact hw)
  rw [h1, zs_zs, bnd_s]
  exact hk w' h2
theorem Ev_t {c : Prop} [Decidable c] {a b : Option (ZQ × Int)} (h : c) (k : Ev z m wB a r) : Ev z m wB (if c then a else b) r := by rw [if_pos h]; exact k
theorem Ev_f {c : Prop} [Decidable c] {a b : Option (ZQ × Int)} (h : ¬ c) (k : Ev z m wB b r) : Ev z m wB (if c then a else b) r := by rw [if_neg h]; exact k
theorem Ev_g {c : Prop} [Decidable c] {a : Option (ZQ × Int)} (h : c) (k : Ev z m wB a r) : Ev z m wB (gd c a) r := by rw [gd_t h]; exact k
theorem Ev_l {α : Type} {x : α} {f : α → Option (ZQ × Int)} (k : Ev z m wB (f x) r) : Ev z m wB (bl x f) r := k
theorem Ev_r {w : World} (hw : II w wB) : Ev z m wB (some (zs z m w, r)) r := ⟨w, rfl, hw⟩
end EV
theorem nodecl {wA wB : World} (h : II wA wB) (hd : DecB wB) {x : Int} (hx : x < 0 ∨ 6 ≤ x) : f_Sc_isDeclared wA x = some 0 := by
  have hn := (num_AB h).2.2.2.2.2
  obtain ⟨nF, m, d, now, top, L, g, hI⟩ := h
  rcases decl_both hI.1 x with ⟨r, rfl, hr, h1, -, -⟩ | ⟨-, h1, -⟩
  · have := hd.2.2.2.2.2.2 r (by omega) hr
    have := hn r hr
    omega
  · exact h1
theorem isdecl {wA wB : World} (h : II wA wB) {r : Nat} (hr : r < 10) (hd : 1 ≤ wB 3 r) : f_Sc_isDeclared wA (r : Int) = some 1 := by
  have hn := (num_AB h).2.2.2.2.2
  obtain ⟨nF, m, d, now, top, L, g, hI⟩ := h
  rcases decl_both hI.1 (r : Int) with ⟨r', e, hr', h1, h2, -⟩ | ⟨h1, -⟩
  · exact h2
  · have := h1 r rfl hr
    have := hn r hr
    omega
theorem DecB.pos {wB : World} (hd : DecB wB) {r : Nat} (hr : r < 6) : 1 ≤ wB 3 r := by
  obtain ⟨d0, d1, d2, d3, d4, d5, -⟩ := hd
  have : r = 0 ∨ r = 1 ∨ r = 2 ∨ r = 3 ∨ r = 4 ∨ r = 5 := by omega
  rcases this with rfl | rfl | rfl | rfl | rfl | rfl <;> omega
theorem perm_ex {wA wB : World} (h : II wA wB) {r so : Nat} {x y z : Int} (hr : r < 10) (hso : so ≤ 2) : ∃ v, f_Sc_permits wA (r : Int) (so : Int) x y z = some v ∧ (v = 0 ∨ v = 1) ∧ (v = 1 ↔ ∀ j, j < 3 → okC so (wB 3 r).toNat j (pick x y z j)) := by
  have hn := (num_AB h).2.2.2.2.2 r hr
  obtain ⟨nF, m, d, now, top, L, g, hI⟩ := h
  obtain ⟨v, h1, h2⟩ := permits_n (x := x) (y := y) (z := z) hI.1.1 hr hso
  rw [hn] at h2
  refine ⟨v, h1, ?_, ?_⟩
  · rcases h2 with ⟨rfl, -⟩ | ⟨rfl, -⟩
    · exact Or.inr rfl
    · exact Or.inl rfl
  · rcases h2 with ⟨rfl, hh⟩ | ⟨rfl, hh⟩
    · exact ⟨fun _ => hh, fun _ => rfl⟩
    · exact ⟨fun e => absurd e (by decide), fun q => absurd q hh⟩
theorem noperm {wA wB : World} (h : II wA wB) {r so j : Nat} {x y z : Int} (hr : r < 10) (hso : so ≤ 2) (hj : j < 3) (hno : ¬ okC so (wB 3 r).toNat j (pick x y z j)) : f_Sc_permits wA (r : Int) (so : Int) x y z = some 0 := by
  obtain ⟨v, h1, h2, h3⟩ := perm_ex (x := x) (y := y) (z := z) h hr hso
  rcases h2 with rfl | rfl
  · exact h1
  · exact absurd (h3.mp rfl j hj) hno
theorem noin {wA wB : World} (h : II wA wB) {r t j : Nat} {x y z : Int} (hr : r < 10) (hj : j < 3) (hno : ¬ okC 0 (wB 3 r).toNat j (pick x y z j)) : f_Dm_isIn wA t (r : Int) x y z = some 0 := by
  unfold f_Dm_isIn
  have e : f_Sc_permits wA (r : Int) 0 x y z = some 0 := noperm (so := 0) h hr (by omega) hj hno
  rw [e, bnd_s, if_pos rfl]
theorem pres_ex {wA wB : World} (h : II wA wB) : ∃ t, f_Dm_present wA = some t ∧ kdA t = 6 := by
  obtain ⟨nF, m, d, now, top, L, g, hI⟩ := h
  obtain ⟨i1, i2, i3, i4, i5, i6, i7, i8, -⟩ := hI
  exact ⟨g now, present_n i8 i6.2.2 i6.1, kd_ref i8 (by omega)⟩
theorem ao_declares {wB : World} {x1 x2 x3 x4 : Int} {e : Nat} (he : e = 0 ∨ e = 1 ∨ e = 2 ∨ e = 3) (h0 : e ≠ 0) (h : ∀ wA, II wA wB → f_Dm_declare wA x1 x2 x3 x4 = some (wA, e, 0)) : ActQ (fun z m => f_L_declares z m x1 x2 x3 x4) wB wB (xcd e) := by
  intro z m hw
  refine ⟨zg z m, ?_, hw⟩
  have hh : f_L_declares z m x1 x2 x3 x4 = some (zs z m (zg z m), rW e 1) := fw_declares he (h _ hw)
  rw [rW, if_neg h0] at hh
  exact hh
theorem ao_facts {wB : World} {x1 x2 x3 x4 x5 x6 x7 : Int} {e : Nat} (he : e = 0 ∨ e = 1 ∨ e = 2 ∨ e = 3) (h0 : e ≠ 0) (h : ∀ wA, II wA wB → f_Dm_fact wA x1 x2 x3 x4 x5 x6 x7 = some (wA, e, 0)) : ActQ (fun z m => f_L_facts z m x1 x2 x3 x4 x5 x6 x7) wB wB (xcd e) := by
  intro z m hw
  refine ⟨zg z m, ?_, hw⟩
  have hh : f_L_facts z m x1 x2 x3 x4 x5 x6 x7 = some (zs z m (zg z m), rW e 0) := fw_facts he (h _ hw)
  rw [rW, if_neg h0] at hh
  exact hh
theorem ao_drops {wB : World} {x1 : Int} {e : Nat} (he : e = 0 ∨ e = 1 ∨ e = 3) (h0 : e ≠ 0) (h : ∀ wA, II wA wB → f_Dm_drop wA x1 = some (wA, e, 0)) : ActQ (fun z m => f_L_drops z m x1) wB wB (xcd e) := by
  intro z m hw
  refine ⟨zg z m, ?_, hw⟩
  have hh : f_L_drops z m x1 = some (zs z m (zg z m), rW e 0) := fw_drops he (h _ hw)
  rw [rW, if_neg h0] at hh
  exact hh
theorem ao_passes {wB : World} {e : Nat} (he : e = 0 ∨ e = 3) (h0 : e ≠ 0) (h : ∀ wA, II wA wB → f_Dm_pass wA = some (wA, e, 0)) : ActQ (fun z m => f_L_passes z m) wB wB (xcd e) := by
  intro z m hw
  refine ⟨zg z m, ?_, hw⟩
  have hh : f_L_passes z m = some (zs z m (zg z m), rW e 0) := fw_passes he (h _ hw)
  rw [rW, if_neg h0] at hh
  exact hh
theorem ao_heads {wB : World} {x1 x2 x3 x4 : Int} {e : Nat} (he : e = 0 ∨ e = 1 ∨ e = 2) (h0 : e ≠ 0) (h : ∀ wA, II wA wB → f_Dm_head wA x1 x2 x3 x4 = some (wA, e, 0)) : ActQ (fun z m => f_L_heads z m x1 x2 x3 x4) wB wB (xcd e) := by
  intro z m hw
  refine ⟨zg z m, ?_, hw⟩
  have hh : f_L_heads z m x1 x2 x3 x4 = some (zs z m (zg z m), rW e 1) := fw_heads he (h _ hw)
  rw [rW, if_neg h0] at hh
  exact hh
theorem ao_atoms {wB : World} {x1 x2 x3 x4 x5 : Int} {e : Nat} (he : e = 0 ∨ e = 1 ∨ e = 2 ∨ e = 3) (h0 : e ≠ 0) (h : ∀ wA, II wA wB → f_Dm_atom wA x1 x2 x3 x4 x5 = some (wA, e, 0)) : ActQ (fun z m => f_L_atoms z m x1 x2 x3 x4 x5) wB wB (xcd e) := by
  intro z m hw
  refine ⟨zg z m, ?_, hw⟩
  have hh : f_L_atoms z m x1 x2 x3 x4 x5 = some (zs z m (zg z m), rW e 0) := fw_atoms he (h _ hw)
  rw [rW, if_neg h0] at hh
  exact hh
theorem ao_compares {wB : World} {x1 x2 x3 : Int} {e : Nat} (he : e = 0 ∨ e = 1 ∨ e = 2 ∨ e = 3) (h0 : e ≠ 0) (h : ∀ wA, II wA wB → f_Dm_compare wA x1 x2 x3 = some (wA, e, 0)) : ActQ (fun z m => f_L_compares z m x1 x2 x3) wB wB (xcd e) := by
  intro z m hw
  refine ⟨zg z m, ?_, hw⟩
  have hh : f_L_compares z m x1 x2 x3 = some (zs z m (zg z m), rW e 0) := fw_compares he (h _ hw)
  rw [rW, if_neg h0] at hh
  exact hh
theorem ao_adds {wB : World} {x1 x2 x3 : Int} {e : Nat} (he : e = 0 ∨ e = 2 ∨ e = 3) (h0 : e ≠ 0) (h : ∀ wA, II wA wB → f_Dm_add wA x1 x2 x3 = some (wA, e, 0)) : ActQ (fun z m => f_L_adds z m x1 x2 x3) wB wB (xcd e) := by
  intro z m hw
  refine ⟨zg z m, ?_, hw⟩
  have hh : f_L_adds z m x1 x2 x3 = some (zs z m (zg z m), rW e 0) := fw_adds he (h _ hw)
  rw [rW, if_neg h0] at hh
  exact hh
theorem ao_enters {wB : World} {e : Nat} (he : e = 0 ∨ e = 2 ∨ e = 3) (h0 : e ≠ 0) (h : ∀ wA, II wA wB → f_Dm_enter wA = some (wA, e, 0)) : ActQ (fun z m => f_L_enters z m) wB wB (xcd e) := by
  intro z m hw
  refine ⟨zg z m, ?_, hw⟩
  have hh : f_L_enters z m = some (zs z m (zg z m), rW e 0) := fw_enters he (h _ hw)
  rw [rW, if_neg h0] at hh
  exact hh
theorem ao_denies {wB : World} {e : Nat} (he : e = 0 ∨ e = 2 ∨ e = 3) (h0 : e ≠ 0) (h : ∀ wA, II wA wB → f_Dm_deny wA = some (wA, e, 0)) : ActQ (fun z m => f_L_denies z m) wB wB (xcd e) := by
  intro z m hw
  refine ⟨zg z m, ?_, hw⟩
  have hh : f_L_denies z m = some (zs z m (zg z m), rW e 0) := fw_denies he (h _ hw)
  rw [rW, if_neg h0] at hh
  exact hh
theorem ao_removes {wB : World} {x1 : Int} {e : Nat} (he : e = 0 ∨ e = 1 ∨ e = 3) (h0 : e ≠ 0) (h : ∀ wA, II wA wB → f_Dm_remove wA x1 = some (wA, e, 0)) : ActQ (fun z m => f_L_removes z m x1) wB wB (xcd e) := by
  intro z m hw
  refine ⟨zg z m, ?_, hw⟩
  have hh : f_L_removes z m x1 = some (zs z m (zg z m), rW e 0) := fw_removes he (h _ hw)
  rw [rW, if_neg h0] at hh
  exact hh
theorem av_holds {wA wB : World} (hA : II wA wB) {x1 x2 x3 x4 : Int} (r_x1 : R32 x1) (r_x2 : R32 x2) (r_x3 : R32 x3) (r_x4 : R32 x4) {e : Nat} {v : Int} {w'' : World} (h : f_Dm_holds wA x1 x2 x3 x4 = some (w'', e, v)) : ActQ (fun z m => f_L_holds z m x1 x2 x3 x4) wB wB (rW e v) := by
  obtain ⟨k, oB, -, -, h3, h4⟩ := an_holds ⟨wA, hA⟩ r_x1 r_x2 r_x3 r_x4
  obtain ⟨w1, v1, g1, g2, -⟩ := h4 wA hA
  cases Option.some.inj (g1.symm.trans h)
  by_cases q : e = 0
  · rw [g2 q]; exact h3
  · have e1 : rW e oB.2 = rW e v := by unfold rW; rw [if_neg q, if_neg q]
    rw [← e1]; exact h3
theorem av_holdsAt {wA wB : World} (hA : II wA wB) {x1 x2 x3 x4 x5 : Int} (r_x1 : R32 x1) (r_x2 : R32 x2) (r_x3 : R32 x3) (r_x4 : R32 x4) (r_x5 : R32 x5) {e : Nat} {v : Int} {w'' : World} (h : f_Dm_holdsAt wA x1 x2 x3 x4 x5 = some (w'', e, v)) : ActQ (fun z m => f_L_holdsAt z m x1 x2 x3 x4 x5) wB wB (rW e v) := by
  obtain ⟨k, oB, -, -, h3, h4⟩ := an_holdsAt ⟨wA, hA⟩ r_x1 r_x2 r_x3 r_x4 r_x5
  obtain ⟨w1, v1, g1, g2, -⟩ := h4 wA hA
  cases Option.some.inj (g1.symm.trans h)
  by_cases q : e = 0
  · rw [g2 q]; exact h3
  · have e1 : rW e oB.2 = rW e v := by unfold rW; rw [if_neg q, if_neg q]
    rw [← e1]; exact h3
theorem av_anew {wA wB : World} (hA : II wA wB) {x1 x2 x3 x4 x5 : Int} (r_x1 : R32 x1) (r_x2 : R32 x2) (r_x3 : R32 x3) (r_x4 : R32 x4) (r_x5 : R32 x5) {e : Nat} {v : Int} {w'' : World} (h : f_Dm_holdsAnew wA x1 x2 x3 x4 x5 = some (w'', e, v)) : ActQ (fun z m => f_L_anew z m x1 x2 x3 x4 x5) wB wB (rW e v) := by
  obtain ⟨k, oB, -, -, h3, h4⟩ := an_anew ⟨wA, hA⟩ r_x1 r_x2 r_x3 r_x4 r_x5
  obtain ⟨w1, v1, g1, g2, -⟩ := h4 wA hA
  cases Option.some.inj (g1.symm.trans h)
  by_cases q : e = 0
  · rw [g2 q]; exact h3
  · have e1 : rW e oB.2 = rW e v := by unfold rW; rw [if_neg q, if_neg q]
    rw [← e1]; exact h3
theorem av_size {wA wB : World} (hA : II wA wB) {x1 : Int} (r_x1 : R32 x1) {e : Nat} {v : Int} {w'' : World} (h : f_Dm_size wA x1 = some (w'', e, v)) : ActQ (fun z m => f_L_size z m x1) wB wB (rW e v) := by
  obtain ⟨k, oB, -, -, h3, h4⟩ := an_size ⟨wA, hA⟩ r_x1
  obtain ⟨w1, v1, g1, g2, -⟩ := h4 wA hA
  cases Option.some.inj (g1.symm.trans h)
  by_cases q : e = 0
  · rw [g2 q]; exact h3
  · have e1 : rW e oB.2 = rW e v := by unfold rW; rw [if_neg q, if_neg q]
    rw [← e1]; exact h3
theorem av_at {wA wB : World} (hA : II wA wB) {x1 x2 : Int} (r_x1 : R32 x1) (r_x2 : R32 x2) {e : Nat} {v : Int} {w'' : World} (h : f_Dm_at wA x1 x2 = some (w'', e, v)) : ActQ (fun z m => f_L_at z m x1 x2) wB wB (rW e v) := by
  obtain ⟨k, oB, -, -, h3, h4⟩ := an_at ⟨wA, hA⟩ r_x1 r_x2
  obtain ⟨w1, v1, g1, g2, -⟩ := h4 wA hA
  cases Option.some.inj (g1.symm.trans h)
  by_cases q : e = 0
  · rw [g2 q]; exact h3
  · have e1 : rW e oB.2 = rW e v := by unfold rW; rw [if_neg q, if_neg q]
    rw [← e1]; exact h3
theorem av_stratum {wA wB : World} (hA : II wA wB) {x1 : Int} (r_x1 : R32 x1) {e : Nat} {v : Int} {w'' : World} (h : f_Dm_stratum wA x1 = some (w'', e, v)) : ActQ (fun z m => f_L_stratum z m x1) wB wB (rW e v) := by
  obtain ⟨k, oB, -, -, h3, h4⟩ := an_stratum ⟨wA, hA⟩ r_x1
  obtain ⟨w1, v1, g1, g2, -⟩ := h4 wA hA
  cases Option.some.inj (g1.symm.trans h)
  by_cases q : e = 0
  · rw [g2 q]; exact h3
  · have e1 : rW e oB.2 = rW e v := by unfold rW; rw [if_neg q, if_neg q]
    rw [← e1]; exact h3
theorem av_ways {wA wB : World} (hA : II wA wB) {x1 x2 x3 x4 : Int} (r_x1 : R32 x1) (r_x2 : R32 x2) (r_x3 : R32 x3) (r_x4 : R32 x4) {e : Nat} {v : Int} {w'' : World} (h : f_Dm_ways wA x1 x2 x3 x4 = some (w'', e, v)) : ActQ (fun z m => f_L_ways z m x1 x2 x3 x4) wB wB (rW e v) := by
  obtain ⟨k, oB, -, -, h3, h4⟩ := an_ways ⟨wA, hA⟩ r_x1 r_x2 r_x3 r_x4
  obtain ⟨w1, v1, g1, g2, -⟩ := h4 wA hA
  cases Option.some.inj (g1.symm.trans h)
  by_cases q : e = 0
  · rw [g2 q]; exact h3
  · have e1 : rW e oB.2 = rW e v := by unfold rW; rw [if_neg q, if_neg q]
    rw [← e1]; exact h3
theorem av_cheapest {wA wB : World} (hA : II wA wB) {x1 x2 x3 x4 : Int} (r_x1 : R32 x1) (r_x2 : R32 x2) (r_x3 : R32 x3) (r_x4 : R32 x4) {e : Nat} {v : Int} {w'' : World} (h : f_Dm_cheapest wA x1 x2 x3 x4 = some (w'', e, v)) : ActQ (fun z m => f_L_cheapest z m x1 x2 x3 x4) wB wB (rW e v) := by
  obtain ⟨k, oB, -, -, h3, h4⟩ := an_cheapest ⟨wA, hA⟩ r_x1 r_x2 r_x3 r_x4
  obtain ⟨w1, v1, g1, g2, -⟩ := h4 wA hA
  cases Option.some.inj (g1.symm.trans h)
  by_cases q : e = 0
  · rw [g2 q]; exact h3
  · have e1 : rW e oB.2 = rW e v := by unfold rW; rw [if_neg q, if_neg q]
    rw [← e1]; exact h3
theorem av_needed {wA wB : World} (hA : II wA wB) {x1 x2 x3 x4 : Int} (r_x1 : R32 x1) (r_x2 : R32 x2) (r_x3 : R32 x3) (r_x4 : R32 x4) {e : Nat} {v : Int} {w'' : World} (h : f_Dm_needed wA x1 x2 x3 x4 = some (w'', e, v)) : ActQ (fun z m => f_L_needed z m x1 x2 x3 x4) wB wB (rW e v) := by
  obtain ⟨k, oB, -, -, h3, h4⟩ := an_needed ⟨wA, hA⟩ r_x1 r_x2 r_x3 r_x4
  obtain ⟨w1, v1, g1, g2, -⟩ := h4 wA hA
  cases Option.some.inj (g1.symm.trans h)
  by_cases q : e = 0
  · rw [g2 q]; exact h3
  · have e1 : rW e oB.2 = rW e v := by unfold rW; rw [if_neg q, if_neg q]
    rw [← e1]; exact h3
theorem av_whyNot {wA wB : World} (hA : II wA wB) {x1 x2 x3 x4 : Int} (r_x1 : R32 x1) (r_x2 : R32 x2) (r_x3 : R32 x3) (r_x4 : R32 x4) {e : Nat} {v : Int} {w'' : World} (h : f_Dm_whyNot wA x1 x2 x3 x4 = some (w'', e, v)) : ActQ (fun z m => f_L_whyNot z m x1 x2 x3 x4) wB wB (rW e v) := by
  obtain ⟨k, oB, -, -, h3, h4⟩ := an_whyNot ⟨wA, hA⟩ r_x1 r_x2 r_x3 r_x4
  obtain ⟨w1, v1, g1, g2, -⟩ := h4 wA hA
  cases Option.some.inj (g1.symm.trans h)
  by_cases q : e = 0
  · rw [g2 q]; exact h3
  · have e1 : rW e oB.2 = rW e v := by unfold rW; rw [if_neg q, if_neg q]
    rw [← e1]; exact h3
theorem av_goals {wA wB : World} (hA : II wA wB) {x1 x2 x3 x4 : Int} (r_x1 : R32 x1) (r_x2 : R32 x2) (r_x3 : R32 x3) (r_x4 : R32 x4) {e : Nat} {v : Int} {w'' : World} (h : f_Dm_goals wA x1 x2 x3 x4 = some (w'', e, v)) : ActQ (fun z m => f_L_goals z m x1 x2 x3 x4) wB wB (rW e v) := by
  obtain ⟨k, oB, -, -, h3, h4⟩ := an_goals ⟨wA, hA⟩ r_x1 r_x2 r_x3 r_x4
  obtain ⟨w1, v1, g1, g2, -⟩ := h4 wA hA
  cases Option.some.inj (g1.symm.trans h)
  by_cases q : e = 0
  · rw [g2 q]; exact h3
  · have e1 : rW e oB.2 = rW e v := by unfold rW; rw [if_neg q, if_neg q]
    rw [← e1]; exact h3
theorem av_order {wA wB : World} (hA : II wA wB) {x1 x2 : Int} (r_x1 : R32 x1) (r_x2 : R32 x2) {e : Nat} {v : Int} {w'' : World} (h : f_Dm_order wA x1 x2 = some (w'', e, v)) : ActQ (fun z m => f_L_order z m x1 x2) wB wB (rW e v) := by
  obtain ⟨k, oB, -, -, h3, h4⟩ := an_order ⟨wA, hA⟩ r_x1 r_x2
  obtain ⟨w1, v1, g1, g2, -⟩ := h4 wA hA
  cases Option.some.inj (g1.symm.trans h)
  by_cases q : e = 0
  · rw [g2 q]; exact h3
  · have e1 : rW e oB.2 = rW e v := by unfold rW; rw [if_neg q, if_neg q]
    rw [← e1]; exact h3
theorem av_joins {wA wB : World} (hA : II wA wB) {x1 : Int} (r_x1 : R32 x1) {e : Nat} {v : Int} {w'' : World} (h : f_Dm_joins wA x1 = some (w'', e, v)) : ActQ (fun z m => f_L_joins z m x1) wB wB (rW e v) := by
  obtain ⟨k, oB, -, -, h3, h4⟩ := an_joins ⟨wA, hA⟩ r_x1
  obtain ⟨w1, v1, g1, g2, -⟩ := h4 wA hA
  cases Option.some.inj (g1.symm.trans h)
  by_cases q : e = 0
  · rw [g2 q]; exact h3
  · have e1 : rW e oB.2 = rW e v := by unfold rW; rw [if_neg q, if_neg q]
    rw [← e1]; exact h3
theorem av_indexes {wA wB : World} (hA : II wA wB) {x1 : Int} (r_x1 : R32 x1) {e : Nat} {v : Int} {w'' : World} (h : f_Dm_indexes wA x1 = some (w'', e, v)) : ActQ (fun z m => f_L_indexes z m x1) wB wB (rW e v) := by
  obtain ⟨k, oB, -, -, h3, h4⟩ := an_indexes ⟨wA, hA⟩ r_x1
  obtain ⟨w1, v1, g1, g2, -⟩ := h4 wA hA
  cases Option.some.inj (g1.symm.trans h)
  by_cases q : e = 0
  · rw [g2 q]; exact h3
  · have e1 : rW e oB.2 = rW e v := by unfold rW; rw [if_neg q, if_neg q]
    rw [← e1]; exact h3
