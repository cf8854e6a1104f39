/-! ANSWERS: what a wrapper answers, by the picture alone: the same for both mills -/
theorem II_back {wA wB wB' : World} (hq : QBr wB wB') (hV : VB wB) (h : II wA wB') : II wA wB := by
  obtain ⟨nF, m, d, now, top, L, g, hI⟩ := h
  exact ⟨nF, m, d, now, top, L, g, Inv_q (QAr.refl hI.2.2.2.2.2.2.2.2.2.1) ⟨fun c k a b => (hq.1 c k a b).symm, fun k a => (hq.2.1 k a).symm, fun k a => (hq.2.2.1 k a).symm, fun k a => (hq.2.2.2.1 k a).symm, hV⟩ hI⟩
def rW (n : Nat) (v : Int) : Int := if n = 0 then v else xcd n
def ActQ (f : ZQ → Bool → Option (ZQ × Int)) (wB wB' : World) (r : Int) : Prop := ∀ z m, II (zg z m) wB → ∃ w', f z m = some (zs z m w', r) ∧ II w' wB'
theorem act_of {f : ZQ → Bool → Option (ZQ × Int)} {fA : World → Option (World × Nat × Int)} {wB wB' : World} {n : Nat} {v : Int} (hf : ∀ z m w' v', II (zg z m) wB → fA (zg z m) = some (w', n, v') → f z m = some (zs z m w', rW n v')) (h : ∀ wA, II wA wB → ∃ w' v', fA wA = some (w', n, v') ∧ (n = 0 → v' = v) ∧ II w' wB') : ActQ f wB wB' (rW n v) := by
  intro z m hw
  obtain ⟨w', v', h1, h2, h3⟩ := h _ hw
  refine ⟨w', ?_, h3⟩
  rw [hf z m w' v' hw h1]
  unfold rW
  by_cases q : n = 0
  · rw [if_pos q, if_pos q, h2 q]
  · rw [if_neg q, if_neg q]
theorem core_q {fA : World → Option (World × Nat × Int)} {fB : Option (World × Int)} {a b c : Int} {P : Nat → Prop} {wB : World} (hinj : ∀ n n', P n → P n' → hmL a b c n = hmL a b c n' → n = n') (h : ∀ wA, II wA wB → ∃ (oA : World × Nat × Int) (oB : World × Int), fA wA = some oA ∧ fB = some oB ∧ f_Re_thrown oB.1 = some (hmL a b c oA.2.1) ∧ P oA.2.1 ∧ (oA.2.1 = 0 → oA.2.2 = oB.2) ∧ IB wB oA.1 oB.1) (hex : ∃ wA, II wA wB) : ∃ (n : Nat) (oB : World × Int), fB = some oB ∧ P n ∧ ∀ wA, II wA wB → ∃ w' v', fA wA = some (w', n, v') ∧ (n = 0 → v' = oB.2) ∧ II w' wB := by
  obtain ⟨wA0, h0⟩ := hex
  obtain ⟨oA0, oB0, h1, h2, h3, h4, h5, h6⟩ := h _ h0
  refine ⟨oA0.2.1, oB0, h2, h4, fun wA hA => ?_⟩
  obtain ⟨⟨w1, n1, v1⟩, oB, g1, g2, g3, g4, g5, g6⟩ := h _ hA
  have e : oB = oB0 := Option.some.inj (g2.symm.trans h2)
  subst e
  have e2 : n1 = oA0.2.1 := hinj _ _ g4 h4 (Option.some.inj (g3.symm.trans h3))
  subst e2
  exact ⟨w1, v1, g1, g5, II_back g6.2 (II_VB h0) g6.1⟩
theorem core_a {fA : World → Option (World × Nat × Int)} {fB : Option (World × Int)} {a b c : Int} {P : Nat → Prop} {wB : World} (hinj : ∀ n n', P n → P n' → hmL a b c n = hmL a b c n' → n = n') (h : ∀ wA, II wA wB → ∃ (oA : World × Nat × Int) (oB : World × Int), fA wA = some oA ∧ fB = some oB ∧ f_Re_thrown oB.1 = some (hmL a b c oA.2.1) ∧ P oA.2.1 ∧ (oA.2.1 = 0 → oA.2.2 = oB.2) ∧ II oA.1 oB.1) (hex : ∃ wA, II wA wB) : ∃ (n : Nat) (oB : World × Int), fB = some oB ∧ P n ∧ ∀ wA, II wA wB → ∃ w' v', fA wA = some (w', n, v') ∧ (n = 0 → v' = oB.2) ∧ II w' oB.1 := by
  obtain ⟨wA0, h0⟩ := hex
  obtain ⟨oA0, oB0, h1, h2, h3, h4, h5, h6⟩ := h _ h0
  refine ⟨oA0.2.1, oB0, h2, h4, fun wA hA => ?_⟩
  obtain ⟨⟨w1, n1, v1⟩, oB, g1, g2, g3, g4, g5, g6⟩ := h _ hA
  have e : oB = oB0 := Option.some.inj (g2.symm.trans h2)
  subst e
  have e2 : n1 = oA0.2.1 := hinj _ _ g4 h4 (Option.some.inj (g3.symm.trans h3))
  subst e2
  exact ⟨w1, v1, g1, g5, g6⟩
theorem core_v {fA : World → Option (World × Nat × Int)} {fB : Option World} {a b c : Int} {P : Nat → Prop} {wB : World} (hinj : ∀ n n', P n → P n' → hmL a b c n = hmL a b c n' → n = n') (h : ∀ wA, II wA wB → ∃ (oA : World × Nat × Int) (oB : World), fA wA = some oA ∧ fB = some oB ∧ f_Re_thrown oB = some (hmL a b c oA.2.1) ∧ P oA.2.1 ∧ II oA.1 oB) (hex : ∃ wA, II wA wB) : ∃ (n : Nat) (oB : World), fB = some oB ∧ P n ∧ ∀ wA, II wA wB → ∃ w' v', fA wA = some (w', n, v') ∧ II w' oB := by
  obtain ⟨wA0, h0⟩ := hex
  obtain ⟨oA0, oB0, h1, h2, h3, h4, h6⟩ := h _ h0
  refine ⟨oA0.2.1, oB0, h2, h4, fun wA hA => ?_⟩
  obtain ⟨⟨w1, n1, v1⟩, oB, g1, g2, g3, g4, g6⟩ := h _ hA
  have e : oB = oB0 := Option.some.inj (g2.symm.trans h2)
  subst e
  have e2 : n1 = oA0.2.1 := hinj _ _ g4 h4 (Option.some.inj (g3.symm.trans h3))
  subst e2
  exact ⟨w1, v1, g1, g6⟩
/-- a call that is refused leaves all as it was -/
theorem act_no {f : ZQ → Bool → Option (ZQ × Int)} {fA : World → Option (World × Nat × Int)} {wB : World} {n : Nat} (hn : n ≠ 0) (hf : ∀ z m w' v', fA (zg z m) = some (w', n, v') → f z m = some (zs z m w', rW n v')) (h : ∀ wA, II wA wB → ∃ v, fA wA = some (wA, n, v)) : ActQ f wB wB (xcd n) := by
  intro z m hw
  obtain ⟨v, h1⟩ := h _ hw
  refine ⟨_, ?_, hw⟩
  rw [hf z m _ v h1]
  unfold rW
  rw [if_neg hn]
theorem fw_declares {z : ZQ} {m : Bool} {x1 x2 x3 x4 : Int} {w' : World} {n : Nat} {v' : Int} (hn : n = 0 ∨ n = 1 ∨ n = 2 ∨ n = 3) (h : f_Dm_declare (zg z m) x1 x2 x3 x4 = some (w', n, v')) : f_L_declares z m x1 x2 x3 x4 = some (zs z m w', rW n 1) := by
  unfold f_L_declares
  rw [h, bnd_s, gd_t hn]
  rfl
theorem ac_declares {wB : World} (hex : ∃ wA, II wA wB) {x1 x2 x3 x4 : Int} (r_x1 : R32 x1) (r_x2 : R32 x2) (r_x3 : R32 x3) (r_x4 : R32 x4) : ∃ (n : Nat) (wB' : World), f_Re_declare wB x1 x2 x3 x4 = some wB' ∧ (n = 0 ∨ n = 1 ∨ n = 2 ∨ n = 3) ∧ ActQ (fun z m => f_L_declares z m x1 x2 x3 x4) wB wB' (rW n 1) ∧ ∀ wA, II wA wB → ∃ w' v', f_Dm_declare wA x1 x2 x3 x4 = some (w', n, v') ∧ II w' wB' := by
  obtain ⟨n, oB, h1, h2, h3⟩ := core_v (P := fun n => n = 0 ∨ n = 1 ∨ n = 2 ∨ n = 3) (fA := fun w => f_Dm_declare w x1 x2 x3 x4) (fB := f_Re_declare wB x1 x2 x3 x4) (a := 1) (b := 2) (c := 3) (wB := wB) (by
    intro n n' h h' e
    rcases h with rfl | rfl | rfl | rfl <;> rcases h' with rfl | rfl | rfl | rfl <;> first | rfl | exact absurd e (by decide)) (fun wA hA => st_declare hA x1 x2 x3 x4 r_x1 r_x2 r_x3 r_x4) hex
  refine ⟨n, oB, h1, h2, fun z m hw => ?_, h3⟩
  obtain ⟨w', v', g1, g2⟩ := h3 _ hw
  exact ⟨w', fw_declares h2 g1, g2⟩
theorem fw_facts {z : ZQ} {m : Bool} {x1 x2 x3 x4 x5 x6 x7 : Int} {w' : World} {n : Nat} {v' : Int} (hn : n = 0 ∨ n = 1 ∨ n = 2 ∨ n = 3) (h : f_Dm_fact (zg z m) x1 x2 x3 x4 x5 x6 x7 = some (w', n, v')) : f_L_facts z m x1 x2 x3 x4 x5 x6 x7 = some (zs z m w', rW n v') := by
  unfold f_L_facts
  rw [h, bnd_s, gd_t hn]
  rfl
theorem ac_facts {wB : World} (hex : ∃ wA, II wA wB) {x1 x2 x3 x4 x5 x6 x7 : Int} (r_x1 : R32 x1) (r_x2 : R32 x2) (r_x3 : R32 x3) (r_x4 : R32 x4) (r_x5 : R32 x5) (r_x6 : R32 x6) (r_x7 : R32 x7) : ∃ (n : Nat) (oB : World × Int), f_Re_fact wB x1 x2 x3 x4 x5 x6 x7 = some oB ∧ (n = 0 ∨ n = 1 ∨ n = 2 ∨ n = 3) ∧ ActQ (fun z m => f_L_facts z m x1 x2 x3 x4 x5 x6 x7) wB oB.1 (rW n oB.2) ∧ ∀ wA, II wA wB → ∃ w' v', f_Dm_fact wA x1 x2 x3 x4 x5 x6 x7 = some (w', n, v') ∧ (n = 0 → v' = oB.2) ∧ II w' oB.1 := by
  obtain ⟨n, oB, h1, h2, h3⟩ := core_a (P := fun n => n = 0 ∨ n = 1 ∨ n = 2 ∨ n = 3) (fA := fun w => f_Dm_fact w x1 x2 x3 x4 x5 x6 x7) (fB := f_Re_fact wB x1 x2 x3 x4 x5 x6 x7) (a := 1) (b := 2) (c := 3) (wB := wB) (by
    intro n n' h h' e
    rcases h with rfl | rfl | rfl | rfl <;> rcases h' with rfl | rfl | rfl | rfl <;> first | rfl | exact absurd e (by decide)) (fun wA hA => st_fact hA x1 x2 x3 x4 x5 x6 x7 r_x1 r_x2 r_x3 r_x4 r_x5 r_x6 r_x7) hex
  exact ⟨n, oB, h1, h2, act_of (fA := fun w => f_Dm_fact w x1 x2 x3 x4 x5 x6 x7) (fun z m w' v' _ h => fw_facts h2 h) h3, h3⟩
theorem fw_drops {z : ZQ} {m : Bool} {x1 : Int} {w' : World} {n : Nat} {v' : Int} (hn : n = 0 ∨ n = 1 ∨ n = 3) (h : f_Dm_drop (zg z m) x1 = some (w', n, v')) : f_L_drops z m x1 = some (zs z m w', rW n v') := by
  unfold f_L_drops
  rw [h, bnd_s, gd_t hn]
  rfl
theorem ac_drops {wB : World} (hex : ∃ wA, II wA wB) {x1 : Int} (r_x1 : R32 x1) : ∃ (n : Nat) (oB : World × Int), f_Re_drop wB x1 = some oB ∧ (n = 0 ∨ n = 1 ∨ n = 3) ∧ ActQ (fun z m => f_L_drops z m x1) wB oB.1 (rW n oB.2) ∧ ∀ wA, II wA wB → ∃ w' v', f_Dm_drop wA x1 = some (w', n, v') ∧ (n = 0 → v' = oB.2) ∧ II w' oB.1 := by
  obtain ⟨n, oB, h1, h2, h3⟩ := core_a (P := fun n => n = 0 ∨ n = 1 ∨ n = 3) (fA := fun w => f_Dm_drop w x1) (fB := f_Re_drop wB x1) (a := 1) (b := 0) (c := 2) (wB := wB) (by
    intro n n' h h' e
    rcases h with rfl | rfl | rfl <;> rcases h' with rfl | rfl | rfl <;> first | rfl | exact absurd e (by decide)) (fun wA hA => st_drop hA x1 r_x1) hex
  exact ⟨n, oB, h1, h2, act_of (fA := fun w => f_Dm_drop w x1) (fun z m w' v' _ h => fw_drops h2 h) h3, h3⟩
theorem fw_passes {z : ZQ} {m : Bool} {w' : World} {n : Nat} {v' : Int} (hn : n = 0 ∨ n = 3) (h : f_Dm_pass (zg z m) = some (w', n, v')) : f_L_passes z m = some (zs z m w', rW n v') := by
  unfold f_L_passes
  rw [h, bnd_s, gd_t hn]
  rfl
theorem ac_passes {wB : World} (hex : ∃ wA, II wA wB)  : ∃ (n : Nat) (oB : World × Int), f_Re_pass wB = some oB ∧ (n = 0 ∨ n = 3) ∧ ActQ (fun z m => f_L_passes z m) wB oB.1 (rW n oB.2) ∧ ∀ wA, II wA wB → ∃ w' v', f_Dm_pass wA = some (w', n, v') ∧ (n = 0 → v' = oB.2) ∧ II w' oB.1 := by
  obtain ⟨n, oB, h1, h2, h3⟩ := core_a (P := fun n => n = 0 ∨ n = 3) (fA := fun w => f_Dm_pass w) (fB := f_Re_pass wB) (a := 0) (b := 0) (c := 1) (wB := wB) (by
    intro n n' h h' e
    rcases h with rfl | rfl <;> rcases h' with rfl | rfl <;> first | rfl | exact absurd e (by decide)) (fun wA hA => st_pass hA  ) hex
  exact ⟨n, oB, h1, h2, act_of (fA := fun w => f_Dm_pass w) (fun z m w' v' _ h => fw_passes h2 h) h3, h3⟩
theorem fw_heads {z : ZQ} {m : Bool} {x1 x2 x3 x4 : Int} {w' : World} {n : Nat} {v' : Int} (hn : n = 0 ∨ n = 1 ∨ n = 2) (h : f_Dm_head (zg z m) x1 x2 x3 x4 = some (w', n, v')) : f_L_heads z m x1 x2 x3 x4 = some (zs z m w', rW n 1) := by
  unfold f_L_heads
  rw [h, bnd_s, gd_t hn]
  rfl
theorem ac_heads {wB : World} (hex : ∃ wA, II wA wB) {x1 x2 x3 x4 : Int} (r_x1 : R32 x1) (r_x2 : R32 x2) (r_x3 : R32 x3) (r_x4 : R32 x4) : ∃ (n : Nat) (wB' : World), f_Re_head wB x1 x2 x3 x4 = some wB' ∧ (n = 0 ∨ n = 1 ∨ n = 2) ∧ ActQ (fun z m => f_L_heads z m x1 x2 x3 x4) wB wB' (rW n 1) ∧ ∀ wA, II wA wB → ∃ w' v', f_Dm_head wA x1 x2 x3 x4 = some (w', n, v') ∧ II w' wB' := by
  obtain ⟨n, oB, h1, h2, h3⟩ := core_v (P := fun n => n = 0 ∨ n = 1 ∨ n = 2) (fA := fun w => f_Dm_head w x1 x2 x3 x4) (fB := f_Re_head wB x1 x2 x3 x4) (a := 1) (b := 2) (c := 0) (wB := wB) (by
    intro n n' h h' e
    rcases h with rfl | rfl | rfl <;> rcases h' with rfl | rfl | rfl <;> first | rfl | exact absurd e (by decide)) (fun wA hA => st_head hA x1 x2 x3 x4 r_x1 r_x2 r_x3 r_x4) hex
  refine ⟨n, oB, h1, h2, fun z m hw => ?_, h3⟩
  obtain ⟨w', v', g1, g2⟩ := h3 _ hw
  exact ⟨w', fw_heads h2 g1, g2⟩
theorem fw_atoms {z : ZQ} {m : Bool} {x1 x2 x3 x4 x5 : Int} {w' : World} {n : Nat} {v' : Int} (hn : n = 0 ∨ n = 1 ∨ n = 2 ∨ n = 3) (h : f_Dm_atom (zg z m) x1 x2 x3 x4 x5 = some (w', n, v')) : f_L_atoms z m x1 x2 x3 x4 x5 = some (zs z m w', rW n v') := by
  unfold f_L_atoms
  rw [h, bnd_s, gd_t hn]
  rfl
theorem ac_atoms {wB : World} (hex : ∃ wA, II wA wB) {x1 x2 x3 x4 x5 : Int} (r_x1 : R32 x1) (r_x2 : R32 x2) (r_x3 : R32 x3) (r_x4 : R32 x4) (r_x5 : R32 x5) : ∃ (n : Nat) (oB : World × Int), f_Re_atom wB x1 x2 x3 x4 x5 = some oB ∧ (n = 0 ∨ n = 1 ∨ n = 2 ∨ n = 3) ∧ ActQ (fun z m => f_L_atoms z m x1 x2 x3 x4 x5) wB oB.1 (rW n oB.2) ∧ ∀ wA, II wA wB → ∃ w' v', f_Dm_atom wA x1 x2 x3 x4 x5 = some (w', n, v') ∧ (n = 0 → v' = oB.2) ∧ II w' oB.1 := by
  obtain ⟨n, oB, h1, h2, h3⟩ := core_a (P := fun n => n = 0 ∨ n = 1 ∨ n = 2 ∨ n = 3) (fA := fun w => f_Dm_atom w x1 x2 x3 x4 x5) (fB := f_Re_atom wB x1 x2 x3 x4 x5) (a := 1) (b := 2) (c := 3) (wB := wB) (by
    intro n n' h h' e
    rcases h with rfl | rfl | rfl | rfl <;> rcases h' with rfl | rfl | rfl | rfl <;> first | rfl | exact absurd e (by decide)) (fun wA hA => st_atom hA x1 x2 x3 x4 x5 r_x1 r_x2 r_x3 r_x4 r_x5) hex
  exact ⟨n, oB, h1, h2, act_of (fA := fun w => f_Dm_atom w x1 x2 x3 x4 x5) (fun z m w' v' _ h => fw_atoms h2 h) h3, h3⟩
theorem fw_compares {z : ZQ} {m : Bool} {x1 x2 x3 : Int} {w' : World} {n : Nat} {v' : Int} (hn : n = 0 ∨ n = 1 ∨ n = 2 ∨ n = 3) (h : f_Dm_compare (zg z m) x1 x2 x3 = some (w', n, v')) : f_L_compares z m x1 x2 x3 = some (zs z m w', rW n v') := by
  unfold f_L_compares
  rw [h, bnd_s, gd_t hn]
  rfl
theorem ac_compares {wB : World} (hex : ∃ wA, II wA wB) {x1 x2 x3 : Int} (r_x1 : R32 x1) (r_x2 : R32 x2) (r_x3 : R32 x3) : ∃ (n : Nat) (oB : World × Int), f_Re_compare wB x1 x2 x3 = some oB ∧ (n = 0 ∨ n = 1 ∨ n = 2 ∨ n = 3) ∧ ActQ (fun z m => f_L_compares z m x1 x2 x3) wB oB.1 (rW n oB.2) ∧ ∀ wA, II wA wB → ∃ w' v', f_Dm_compare wA x1 x2 x3 = some (w', n, v') ∧ (n = 0 → v' = oB.2) ∧ II w' oB.1 := by
  obtain ⟨n, oB, h1, h2, h3⟩ := core_a (P := fun n => n = 0 ∨ n = 1 ∨ n = 2 ∨ n = 3) (fA := fun w => f_Dm_compare w x1 x2 x3) (fB := f_Re_compare wB x1 x2 x3) (a := 1) (b := 2) (c := 3) (wB := wB) (by
    intro n n' h h' e
    rcases h with rfl | rfl | rfl | rfl <;> rcases h' with rfl | rfl | rfl | rfl <;> first | rfl | exact absurd e (by decide)) (fun wA hA => st_compare hA x1 x2 x3 r_x1 r_x2 r_x3) hex
  exact ⟨n, oB, h1, h2, act_of (fA := fun w => f_Dm_compare w x1 x2 x3) (fun z m w' v' _ h => fw_compares h2 h) h3, h3⟩
theorem fw_adds {z : ZQ} {m : Bool} {x1 x2 x3 : Int} {w' : World} {n : Nat} {v' : Int} (hn : n = 0 ∨ n = 2 ∨ n = 3) (h : f_Dm_add (zg z m) x1 x2 x3 = some (w', n, v')) : f_L_adds z m x1 x2 x3 = some (zs z m w', rW n v') := by
  unfold f_L_adds
  rw [h, bnd_s, gd_t hn]
  rfl
theorem ac_adds {wB : World} (hex : ∃ wA, II wA wB) {x1 x2 x3 : Int} (r_x1 : R32 x1) (r_x2 : R32 x2) (r_x3 : R32 x3) : ∃ (n : Nat) (oB : World × Int), f_Re_add wB x1 x2 x3 = some oB ∧ (n = 0 ∨ n = 2 ∨ n = 3) ∧ ActQ (fun z m => f_L_adds z m x1 x2 x3) wB oB.1 (rW n oB.2) ∧ ∀ wA, II wA wB → ∃ w' v', f_Dm_add wA x1 x2 x3 = some (w', n, v') ∧ (n = 0 → v' = oB.2) ∧ II w' oB.1 := by
  obtain ⟨n, oB, h1, h2, h3⟩ := core_a (P := fun n => n = 0 ∨ n = 2 ∨ n = 3) (fA := fun w => f_Dm_add w x1 x2 x3) (fB := f_Re_add wB x1 x2 x3) (a := 0) (b := 1) (c := 2) (wB := wB) (by
    intro n n' h h' e
    rcases h with rfl | rfl | rfl <;> rcases h' with rfl | rfl | rfl <;> first | rfl | exact absurd e (by decide)) (fun wA hA => st_add hA x1 x2 x3 r_x1 r_x2 r_x3) hex
  exact ⟨n, oB, h1, h2, act_of (fA := fun w => f_Dm_add w x1 x2 x3) (fun z m w' v' _ h => fw_adds h2 h) h3, h3⟩
theorem fw_enters {z : ZQ} {m : Bool} {w' : World} {n : Nat} {v' : Int} (hn : n = 0 ∨ n = 2 ∨ n = 3) (h : f_Dm_enter (zg z m) = some (w', n, v')) : f_L_enters z m = some (zs z m w', rW n v') := by
  unfold f_L_enters
  rw [h, bnd_s, gd_t hn]
  rfl
theorem ac_enters {wB : World} (hex : ∃ wA, II wA wB)  : ∃ (n : Nat) (oB : World × Int), f_Re_enter wB = some oB ∧ (n = 0 ∨ n = 2 ∨ n = 3) ∧ ActQ (fun z m => f_L_enters z m) wB oB.1 (rW n oB.2) ∧ ∀ wA, II wA wB → ∃ w' v', f_Dm_enter wA = some (w', n, v') ∧ (n = 0 → v' = oB.2) ∧ II w' oB.1 := by
  obtain ⟨n, oB, h1, h2, h3⟩ := core_a (P := fun n => n = 0 ∨ n = 2 ∨ n = 3) (fA := fun w => f_Dm_enter w) (fB := f_Re_enter wB) (a := 0) (b := 1) (c := 2) (wB := wB) (by
    intro n n' h h' e
    rcases h with rfl | rfl | rfl <;> rcases h' with rfl | rfl | rfl <;> first | rfl | exact absurd e (by decide)) (fun wA hA => st_enter hA  ) hex
  exact ⟨n, oB, h1, h2, act_of (fA := fun w => f_Dm_enter w) (fun z m w' v' _ h => fw_enters h2 h) h3, h3⟩
theorem fw_denies {z : ZQ} {m : Bool} {w' : World} {n : Nat} {v' : Int} (hn : n = 0 ∨ n = 2 ∨ n = 3) (h : f_Dm_deny (zg z m) = some (w', n, v')) : f_L_denies z m = some (zs z m w', rW n v') := by
  unfold f_L_denies
  rw [h, bnd_s, gd_t hn]
  rfl
theorem ac_denies {wB : World} (hex : ∃ wA, II wA wB)  : ∃ (n : Nat) (oB : World × Int), f_Re_deny wB = some oB ∧ (n = 0 ∨ n = 2 ∨ n = 3) ∧ ActQ (fun z m => f_L_denies z m) wB oB.1 (rW n oB.2) ∧ ∀ wA, II wA wB → ∃ w' v', f_Dm_deny wA = some (w', n, v') ∧ (n = 0 → v' = oB.2) ∧ II w' oB.1 := by
  obtain ⟨n, oB, h1, h2, h3⟩ := core_a (P := fun n => n = 0 ∨ n = 2 ∨ n = 3) (fA := fun w => f_Dm_deny w) (fB := f_Re_deny wB) (a := 0) (b := 1) (c := 2) (wB := wB) (by
    intro n n' h h' e
    rcases h with rfl | rfl | rfl <;> rcases h' with rfl | rfl | rfl <;> first | rfl | exact absurd e (by decide)) (fun wA hA => st_deny hA  ) hex
  exact ⟨n, oB, h1, h2, act_of (fA := fun w => f_Dm_deny w) (fun z m w' v' _ h => fw_denies h2 h) h3, h3⟩
theorem fw_removes {z : ZQ} {m : Bool} {x1 : Int} {w' : World} {n : Nat} {v' : Int} (hn : n = 0 ∨ n = 1 ∨ n = 3) (h : f_Dm_remove (zg z m) x1 = some (w', n, v')) : f_L_removes z m x1 = some (zs z m w', rW n v') := by
  unfold f_L_removes
  rw [h, bnd_s, gd_t hn]
  rfl
theorem ac_removes {wB : World} (hex : ∃ wA, II wA wB) {x1 : Int} (r_x1 : R32 x1) : ∃ (n : Nat) (oB : World × Int), f_Re_remove wB x1 = some oB ∧ (n = 0 ∨ n = 1 ∨ n = 3) ∧ ActQ (fun z m => f_L_removes z m x1) wB oB.1 (rW n oB.2) ∧ ∀ wA, II wA wB → ∃ w' v', f_Dm_remove wA x1 = some (w', n, v') ∧ (n = 0 → v' = oB.2) ∧ II w' oB.1 := by
  obtain ⟨n, oB, h1, h2, h3⟩ := core_a (P := fun n => n = 0 ∨ n = 1 ∨ n = 3) (fA := fun w => f_Dm_remove w x1) (fB := f_Re_remove wB x1) (a := 1) (b := 0) (c := 2) (wB := wB) (by
    intro n n' h h' e
    rcases h with rfl | rfl | rfl <;> rcases h' with rfl | rfl | rfl <;> first | rfl | exact absurd e (by decide)) (fun wA hA => st_remove hA x1 r_x1) hex
  exact ⟨n, oB, h1, h2, act_of (fA := fun w => f_Dm_remove w x1) (fun z m w' v' _ h => fw_removes h2 h) h3, h3⟩
theorem fw_holds {z : ZQ} {m : Bool} {x1 x2 x3 x4 : Int} {w' : World} {n : Nat} {v' : Int} (hn : n = 0 ∨ n = 1) (hb : n = 0 → v' = 0 ∨ v' = 1) (h : f_Dm_holds (zg z m) x1 x2 x3 x4 = some (w', n, v')) : f_L_holds z m x1 x2 x3 x4 = some (zs z m w', rW n v') := by
  unfold f_L_holds
  rw [h, bnd_s, gd_t ⟨hn, hb⟩]
  rfl
theorem an_holds {wB : World} (hex : ∃ wA, II wA wB) {x1 x2 x3 x4 : Int} (r_x1 : R32 x1) (r_x2 : R32 x2) (r_x3 : R32 x3) (r_x4 : R32 x4) : ∃ (n : Nat) (oB : World × Int), f_Re_holds wB x1 x2 x3 x4 = some oB ∧ (n = 0 ∨ n = 1) ∧ ActQ (fun z m => f_L_holds z m x1 x2 x3 x4) wB wB (rW n oB.2) ∧ ∀ wA, II wA wB → ∃ w' v', f_Dm_holds wA x1 x2 x3 x4 = some (w', n, v') ∧ (n = 0 → v' = oB.2) ∧ II w' wB := by
  obtain ⟨n, oB, h1, h2, h3⟩ := core_q (P := fun n => n = 0 ∨ n = 1) (fA := fun w => f_Dm_holds w x1 x2 x3 x4) (fB := f_Re_holds wB x1 x2 x3 x4) (a := 1) (b := 0) (c := 0) (wB := wB) (by
    intro n n' h h' e
    rcases h with rfl | rfl <;> rcases h' with rfl | rfl <;> first | rfl | exact absurd e (by decide)) (fun wA hA => by
    obtain ⟨oA, oB, q1, q2, q3, q4, q5, -, q7⟩ := (sq_holds wB) ⟨hA, QBr.refl (II_VB hA)⟩ x1 x2 x3 x4 r_x1 r_x2 r_x3 r_x4
    exact ⟨oA, oB, q1, q2, q3, q4, q5, q7⟩) hex
  refine ⟨n, oB, h1, h2, act_of (fA := fun w => f_Dm_holds w x1 x2 x3 x4) (fun z m w' v' hA h => fw_holds h2 (fun e => ?_) h) h3, h3⟩
  obtain ⟨oA, oB', q1, -, -, -, -, q6, -⟩ := sq_holds wB ⟨hA, QBr.refl (II_VB hA)⟩ x1 x2 x3 x4 r_x1 r_x2 r_x3 r_x4
  have h : f_Dm_holds (zg z m) x1 x2 x3 x4 = some (w', n, v') := h
  have q1 := Option.some.inj (q1.symm.trans h)
  subst q1
  exact q6 e
theorem fw_holdsAt {z : ZQ} {m : Bool} {x1 x2 x3 x4 x5 : Int} {w' : World} {n : Nat} {v' : Int} (hn : n = 0 ∨ n = 1 ∨ n = 2) (hb : n = 0 → v' = 0 ∨ v' = 1) (h : f_Dm_holdsAt (zg z m) x1 x2 x3 x4 x5 = some (w', n, v')) : f_L_holdsAt z m x1 x2 x3 x4 x5 = some (zs z m w', rW n v') := by
  unfold f_L_holdsAt
  rw [h, bnd_s, gd_t ⟨hn, hb⟩]
  rfl
theorem an_holdsAt {wB : World} (hex : ∃ wA, II wA wB) {x1 x2 x3 x4 x5 : Int} (r_x1 : R32 x1) (r_x2 : R32 x2) (r_x3 : R32 x3) (r_x4 : R32 x4) (r_x5 : R32 x5) : ∃ (n : Nat) (oB : World × Int), f_Re_holdsAt wB x1 x2 x3 x4 x5 = some oB ∧ (n = 0 ∨ n = 1 ∨ n = 2) ∧ ActQ (fun z m => f_L_holdsAt z m x1 x2 x3 x4 x5) wB wB (rW n oB.2) ∧ ∀ wA, II wA wB → ∃ w' v', f_Dm_holdsAt wA x1 x2 x3 x4 x5 = some (w', n, v') ∧ (n = 0 → v' = oB.2) ∧ II w' wB := by
  obtain ⟨n, oB, h1, h2, h3⟩ := core_q (P := fun n => n = 0 ∨ n = 1 ∨ n = 2) (fA := fun w => f_Dm_holdsAt w x1 x2 x3 x4 x5) (fB := f_Re_holdsAt wB x1 x2 x3 x4 x5) (a := 1) (b := 2) (c := 0) (wB := wB) (by
    intro n n' h h' e
    rcases h with rfl | rfl | rfl <;> rcases h' with rfl | rfl | rfl <;> first | rfl | exact absurd e (by decide)) (fun wA hA => by
    obtain ⟨oA, oB, q1, q2, q3, q4, q5, -, q7⟩ := (sq_holdsAt wB) ⟨hA, QBr.refl (II_VB hA)⟩ x1 x2 x3 x4 x5 r_x1 r_x2 r_x3 r_x4 r_x5
    exact ⟨oA, oB, q1, q2, q3, q4, q5, q7⟩) hex
  refine ⟨n, oB, h1, h2, act_of (fA := fun w => f_Dm_holdsAt w x1 x2 x3 x4 x5) (fun z m w' v' hA h => fw_holdsAt h2 (fun e => ?_) h) h3, h3⟩
  obtain ⟨oA, oB', q1, -, -, -, -, q6, -⟩ := sq_holdsAt wB ⟨hA, QBr.refl (II_VB hA)⟩ x1 x2 x3 x4 x5 r_x1 r_x2 r_x3 r_x4 r_x5
  have h : f_Dm_holdsAt (zg z m) x1 x2 x3 x4 x5 = some (w', n, v') := h
  have q1 := Option.some.inj (q1.symm.trans h)
  subst q1
  exact q6 e
theorem fw_anew {z : ZQ} {m : Bool} {x1 x2 x3 x4 x5 : Int} {w' : World} {n : Nat} {v' : Int} (hn : n = 0 ∨ n = 1 ∨ n = 2) (hb : n = 0 → v' = 0 ∨ v' = 1) (h : f_Dm_holdsAnew (zg z m) x1 x2 x3 x4 x5 = some (w', n, v')) : f_L_anew z m x1 x2 x3 x4 x5 = some (zs z m w', rW n v') := by
  unfold f_L_anew
  rw [h, bnd_s, gd_t ⟨hn, hb⟩]
  rfl
theorem an_anew {wB : World} (hex : ∃ wA, II wA wB) {x1 x2 x3 x4 x5 : Int} (r_x1 : R32 x1) (r_x2 : R32 x2) (r_x3 : R32 x3) (r_x4 : R32 x4) (r_x5 : R32 x5) : ∃ (n : Nat) (oB : World × Int), f_Re_holdsAnew wB x1 x2 x3 x4 x5 = some oB ∧ (n = 0 ∨ n = 1 ∨ n = 2) ∧ ActQ (fun z m => f_L_anew z m x1 x2 x3 x4 x5) wB wB (rW n oB.2) ∧ ∀ wA, II wA wB → ∃ w' v', f_Dm_holdsAnew wA x1 x2 x3 x4 x5 = some (w', n, v') ∧ (n = 0 → v' = oB.2) ∧ II w' wB := by
  obtain ⟨n, oB, h1, h2, h3⟩ := core_q (P := fun n => n = 0 ∨ n = 1 ∨ n = 2) (fA := fun w => f_Dm_holdsAnew w x1 x2 x3 x4 x5) (fB := f_Re_holdsAnew wB x1 x2 x3 x4 x5) (a := 1) (b := 2) (c := 0) (wB := wB) (by
    intro n n' h h' e
    rcases h with rfl | rfl | rfl <;> rcases h' with rfl | rfl | rfl <;> first | rfl | exact absurd e (by decide)) (fun wA hA => by
    obtain ⟨oA, oB, q1, q2, q3, q4, q5, -, q7⟩ := (sq_holdsAnew wB) ⟨hA, QBr.refl (II_VB hA)⟩ x1 x2 x3 x4 x5 r_x1 r_x2 r_x3 r_x4 r_x5
    exact ⟨oA, oB, q1, q2, q3, q4, q5, q7⟩) hex
  refine ⟨n, oB, h1, h2, act_of (fA := fun w => f_Dm_holdsAnew w x1 x2 x3 x4 x5) (fun z m w' v' hA h => fw_anew h2 (fun e => ?_) h) h3, h3⟩
  obtain ⟨oA, oB', q1, -, -, -, -, q6, -⟩ := sq_holdsAnew wB ⟨hA, QBr.refl (II_VB hA)⟩ x1 x2 x3 x4 x5 r_x1 r_x2 r_x3 r_x4 r_x5
  have h : f_Dm_holdsAnew (zg z m) x1 x2 x3 x4 x5 = some (w', n, v') := h
  have q1 := Option.some.inj (q1.symm.trans h)
  subst q1
  exact q6 e
theorem fw_size {z : ZQ} {m : Bool} {x1 : Int} {w' : World} {n : Nat} {v' : Int} (hn : n = 0 ∨ n = 1) (h : f_Dm_size (zg z m) x1 = some (w', n, v')) : f_L_size z m x1 = some (zs z m w', rW n v') := by
  unfold f_L_size
  rw [h, bnd_s, gd_t hn]
  rfl
theorem an_size {wB : World} (hex : ∃ wA, II wA wB) {x1 : Int} (r_x1 : R32 x1) : ∃ (n : Nat) (oB : World × Int), f_Re_size wB x1 = some oB ∧ (n = 0 ∨ n = 1) ∧ ActQ (fun z m => f_L_size z m x1) wB wB (rW n oB.2) ∧ ∀ wA, II wA wB → ∃ w' v', f_Dm_size wA x1 = some (w', n, v') ∧ (n = 0 → v' = oB.2) ∧ II w' wB := by
  obtain ⟨n, oB, h1, h2, h3⟩ := core_q (P := fun n => n = 0 ∨ n = 1) (fA := fun w => f_Dm_size w x1) (fB := f_Re_size wB x1) (a := 1) (b := 0) (c := 0) (wB := wB) (by
    intro n n' h h' e
    rcases h with rfl | rfl <;> rcases h' with rfl | rfl <;> first | rfl | exact absurd e (by decide)) (fun wA hA => (sq_size wB) ⟨hA, QBr.refl (II_VB hA)⟩ x1 r_x1) hex
  exact ⟨n, oB, h1, h2, act_of (fA := fun w => f_Dm_size w x1) (fun z m w' v' _ h => fw_size h2 h) h3, h3⟩
theorem fw_at {z : ZQ} {m : Bool} {x1 x2 : Int} {w' : World} {n : Nat} {v' : Int} (hn : n = 0 ∨ n = 1) (h : f_Dm_at (zg z m) x1 x2 = some (w', n, v')) : f_L_at z m x1 x2 = some (zs z m w', rW n v') := by
  unfold f_L_at
  rw [h, bnd_s, gd_t hn]
  rfl
theorem an_at {wB : World} (hex : ∃ wA, II wA wB) {x1 x2 : Int} (r_x1 : R32 x1) (r_x2 : R32 x2) : ∃ (n : Nat) (oB : World × Int), f_Re_at wB x1 x2 = some oB ∧ (n = 0 ∨ n = 1) ∧ ActQ (fun z m => f_L_at z m x1 x2) wB wB (rW n oB.2) ∧ ∀ wA, II wA wB → ∃ w' v', f_Dm_at wA x1 x2 = some (w', n, v') ∧ (n = 0 → v' = oB.2) ∧ II w' wB := by
  obtain ⟨n, oB, h1, h2, h3⟩ := core_q (P := fun n => n = 0 ∨ n = 1) (fA := fun w => f_Dm_at w x1 x2) (fB := f_Re_at wB x1 x2) (a := 1) (b := 0) (c := 0) (wB := wB) (by
    intro n n' h h' e
    rcases h with rfl | rfl <;> rcases h' with rfl | rfl <;> first | rfl | exact absurd e (by decide)) (fun wA hA => (sq_at wB) ⟨hA, QBr.refl (II_VB hA)⟩ x1 x2 r_x1 r_x2) hex
  exact ⟨n, oB, h1, h2, act_of (fA := fun w => f_Dm_at w x1 x2) (fun z m w' v' _ h => fw_at h2 h) h3, h3⟩
theorem fw_stratum {z : ZQ} {m : Bool} {x1 : Int} {w' : World} {n : Nat} {v' : Int} (hn : n = 0 ∨ n = 1) (h : f_Dm_stratum (zg z m) x1 = some (w', n, v')) : f_L_stratum z m x1 = some (zs z m w', rW n v') := by
  unfold f_L_stratum
  rw [h, bnd_s, gd_t hn]
  rfl
theorem an_stratum {wB : World} (hex : ∃ wA, II wA wB) {x1 : Int} (r_x1 : R32 x1) : ∃ (n : Nat) (oB : World × Int), f_Re_stratum wB x1 = some oB ∧ (n = 0 ∨ n = 1) ∧ ActQ (fun z m => f_L_stratum z m x1) wB wB (rW n oB.2) ∧ ∀ wA, II wA wB → ∃ w' v', f_Dm_stratum wA x1 = some (w', n, v') ∧ (n = 0 → v' = oB.2) ∧ II w' wB := by
  obtain ⟨n, oB, h1, h2, h3⟩ := core_q (P := fun n => n = 0 ∨ n = 1) (fA := fun w => f_Dm_stratum w x1) (fB := f_Re_stratum wB x1) (a := 1) (b := 0) (c := 0) (wB := wB) (by
    intro n n' h h' e
    rcases h with rfl | rfl <;> rcases h' with rfl | rfl <;> first | rfl | exact absurd e (by decide)) (fun wA hA => (sq_stratum wB) ⟨hA, QBr.refl (II_VB hA)⟩ x1 r_x1) hex
  exact ⟨n, oB, h1, h2, act_of (fA := fun w => f_Dm_stratum w x1) (fun z m w' v' _ h => fw_stratum h2 h) h3, h3⟩
theorem fw_ways {z : ZQ} {m : Bool} {x1 x2 x3 x4 : Int} {w' : World} {n : Nat} {v' : Int} (hn : n = 0 ∨ n = 1) (h : f_Dm_ways (zg z m) x1 x2 x3 x4 = some (w', n, v')) : f_L_ways z m x1 x2 x3 x4 = some (zs z m w', rW n v') := by
  unfold f_L_ways
  rw [h, bnd_s, gd_t hn]
  rfl
theorem an_ways {wB : World} (hex : ∃ wA, II wA wB) {x1 x2 x3 x4 : Int} (r_x1 : R32 x1) (r_x2 : R32 x2) (r_x3 : R32 x3) (r_x4 : R32 x4) : ∃ (n : Nat) (oB : World × Int), f_Re_ways wB x1 x2 x3 x4 = some oB ∧ (n = 0 ∨ n = 1) ∧ ActQ (fun z m => f_L_ways z m x1 x2 x3 x4) wB wB (rW n oB.2) ∧ ∀ wA, II wA wB → ∃ w' v', f_Dm_ways wA x1 x2 x3 x4 = some (w', n, v') ∧ (n = 0 → v' = oB.2) ∧ II w' wB := by
  obtain ⟨n, oB, h1, h2, h3⟩ := core_q (P := fun n => n = 0 ∨ n = 1) (fA := fun w => f_Dm_ways w x1 x2 x3 x4) (fB := f_Re_ways wB x1 x2 x3 x4) (a := 1) (b := 0) (c := 0) (wB := wB) (by
    intro n n' h h' e
    rcases h with rfl | rfl <;> rcases h' with rfl | rfl <;> first | rfl | exact absurd e (by decide)) (fun wA hA => (sq_ways wB) ⟨hA, QBr.refl (II_VB hA)⟩ x1 x2 x3 x4 r_x1 r_x2 r_x3 r_x4) hex
  exact ⟨n, oB, h1, h2, act_of (fA := fun w => f_Dm_ways w x1 x2 x3 x4) (fun z m w' v' _ h => fw_ways h2 h) h3, h3⟩
theorem fw_cheapest {z : ZQ} {m : Bool} {x1 x2 x3 x4 : Int} {w' : World} {n : Nat} {v' : Int} (hn : n = 0 ∨ n = 1) (h : f_Dm_cheapest (zg z m) x1 x2 x3 x4 = some (w', n, v')) : f_L_cheapest z m x1 x2 x3 x4 = some (zs z m w', rW n v') := by
  unfold f_L_cheapest
  rw [h, bnd_s, gd_t hn]
  rfl
theorem an_cheapest {wB : World} (hex : ∃ wA, II wA wB) {x1 x2 x3 x4 : Int} (r_x1 : R32 x1) (r_x2 : R32 x2) (r_x3 : R32 x3) (r_x4 : R32 x4) : ∃ (n : Nat) (oB : World × Int), f_Re_cheapest wB x1 x2 x3 x4 = some oB ∧ (n = 0 ∨ n = 1) ∧ ActQ (fun z m => f_L_cheapest z m x1 x2 x3 x4) wB wB (rW n oB.2) ∧ ∀ wA, II wA wB → ∃ w' v', f_Dm_cheapest wA x1 x2 x3 x4 = some (w', n, v') ∧ (n = 0 → v' = oB.2) ∧ II w' wB := by
  obtain ⟨n, oB, h1, h2, h3⟩ := core_q (P := fun n => n = 0 ∨ n = 1) (fA := fun w => f_Dm_cheapest w x1 x2 x3 x4) (fB := f_Re_cheapest wB x1 x2 x3 x4) (a := 1) (b := 0) (c := 0) (wB := wB) (by
    intro n n' h h' e
    rcases h with rfl | rfl <;> rcases h' with rfl | rfl <;> first | rfl | exact absurd e (by decide)) (fun wA hA => (sq_cheapest wB) ⟨hA, QBr.refl (II_VB hA)⟩ x1 x2 x3 x4 r_x1 r_x2 r_x3 r_x4) hex
  exact ⟨n, oB, h1, h2, act_of (fA := fun w => f_Dm_cheapest w x1 x2 x3 x4) (fun z m w' v' _ h => fw_cheapest h2 h) h3, h3⟩
theorem fw_needed {z : ZQ} {m : Bool} {x1 x2 x3 x4 : Int} {w' : World} {n : Nat} {v' : Int} (hn : n = 0 ∨ n = 1) (h : f_Dm_needed (zg z m) x1 x2 x3 x4 = some (w', n, v')) : f_L_needed z m x1 x2 x3 x4 = some (zs z m w', rW n v') := by
  unfold f_L_needed
  rw [h, bnd_s, gd_t hn]
  rfl
theorem an_needed {wB : World} (hex : ∃ wA, II wA wB) {x1 x2 x3 x4 : Int} (r_x1 : R32 x1) (r_x2 : R32 x2) (r_x3 : R32 x3) (r_x4 : R32 x4) : ∃ (n : Nat) (oB : World × Int), f_Re_needed wB x1 x2 x3 x4 = some oB ∧ (n = 0 ∨ n = 1) ∧ ActQ (fun z m => f_L_needed z m x1 x2 x3 x4) wB wB (rW n oB.2) ∧ ∀ wA, II wA wB → ∃ w' v', f_Dm_needed wA x1 x2 x3 x4 = some (w', n, v') ∧ (n = 0 → v' = oB.2) ∧ II w' wB := by
  obtain ⟨n, oB, h1, h2, h3⟩ := core_q (P := fun n => n = 0 ∨ n = 1) (fA := fun w => f_Dm_needed w x1 x2 x3 x4) (fB := f_Re_needed wB x1 x2 x3 x4) (a := 1) (b := 0) (c := 0) (wB := wB) (by
    intro n n' h h' e
    rcases h with rfl | rfl <;> rcases h' with rfl | rfl <;> first | rfl | exact absurd e (by decide)) (fun wA hA => (sq_needed wB) ⟨hA, QBr.refl (II_VB hA)⟩ x1 x2 x3 x4 r_x1 r_x2 r_x3 r_x4) hex
  exact ⟨n, oB, h1, h2, act_of (fA := fun w => f_Dm_needed w x1 x2 x3 x4) (fun z m w' v' _ h => fw_needed h2 h) h3, h3⟩
theorem fw_whyNot {z : ZQ} {m : Bool} {x1 x2 x3 x4 : Int} {w' : World} {n : Nat} {v' : Int} (hn : n = 0 ∨ n = 1 ∨ n = 2 ∨ n = 3) (h : f_Dm_whyNot (zg z m) x1 x2 x3 x4 = some (w', n, v')) : f_L_whyNot z m x1 x2 x3 x4 = some (zs z m w', rW n v') := by
  unfold f_L_whyNot
  rw [h, bnd_s, gd_t hn]
  rfl
theorem an_whyNot {wB : World} (hex : ∃ wA, II wA wB) {x1 x2 x3 x4 : Int} (r_x1 : R32 x1) (r_x2 : R32 x2) (r_x3 : R32 x3) (r_x4 : R32 x4) : ∃ (n : Nat) (oB : World × Int), f_Re_whyNot wB x1 x2 x3 x4 = some oB ∧ (n = 0 ∨ n = 1 ∨ n = 2 ∨ n = 3) ∧ ActQ (fun z m => f_L_whyNot z m x1 x2 x3 x4) wB wB (rW n oB.2) ∧ ∀ wA, II wA wB → ∃ w' v', f_Dm_whyNot wA x1 x2 x3 x4 = some (w', n, v') ∧ (n = 0 → v' = oB.2) ∧ II w' wB := by
  obtain ⟨n, oB, h1, h2, h3⟩ := core_q (P := fun n => n = 0 ∨ n = 1 ∨ n = 2 ∨ n = 3) (fA := fun w => f_Dm_whyNot w x1 x2 x3 x4) (fB := f_Re_whyNot wB x1 x2 x3 x4) (a := 1) (b := 2) (c := 3) (wB := wB) (by
    intro n n' h h' e
    rcases h with rfl | rfl | rfl | rfl <;> rcases h' with rfl | rfl | rfl | rfl <;> first | rfl | exact absurd e (by decide)) (fun wA hA => (sq_whyNot wB) ⟨hA, QBr.refl (II_VB hA)⟩ x1 x2 x3 x4 r_x1 r_x2 r_x3 r_x4) hex
  exact ⟨n, oB, h1, h2, act_of (fA := fun w => f_Dm_whyNot w x1 x2 x3 x4) (fun z m w' v' _ h => fw_whyNot h2 h) h3, h3⟩
theorem fw_goals {z : ZQ} {m : Bool} {x1 x2 x3 x4 : Int} {w' : World} {n : Nat} {v' : Int} (hn : n = 0 ∨ n = 1 ∨ n = 2) (h : f_Dm_goals (zg z m) x1 x2 x3 x4 = some (w', n, v')) : f_L_goals z m x1 x2 x3 x4 = some (zs z m w', rW n v') := by
  unfold f_L_goals
  rw [h, bnd_s, gd_t hn]
  rfl
theorem an_goals {wB : World} (hex : ∃ wA, II wA wB) {x1 x2 x3 x4 : Int} (r_x1 : R32 x1) (r_x2 : R32 x2) (r_x3 : R32 x3) (r_x4 : R32 x4) : ∃ (n : Nat) (oB : World × Int), f_Re_goals wB x1 x2 x3 x4 = some oB ∧ (n = 0 ∨ n = 1 ∨ n = 2) ∧ ActQ (fun z m => f_L_goals z m x1 x2 x3 x4) wB wB (rW n oB.2) ∧ ∀ wA, II wA wB → ∃ w' v', f_Dm_goals wA x1 x2 x3 x4 = some (w', n, v') ∧ (n = 0 → v' = oB.2) ∧ II w' wB := by
  obtain ⟨n, oB, h1, h2, h3⟩ := core_q (P := fun n => n = 0 ∨ n = 1 ∨ n = 2) (fA := fun w => f_Dm_goals w x1 x2 x3 x4) (fB := f_Re_goals wB x1 x2 x3 x4) (a := 1) (b := 2) (c := 0) (wB := wB) (by
    intro n n' h h' e
    rcases h with rfl | rfl | rfl <;> rcases h' with rfl | rfl | rfl <;> first | rfl | exact absurd e (by decide)) (fun wA hA => (sq_goals wB) ⟨hA, QBr.refl (II_VB hA)⟩ x1 x2 x3 x4 r_x1 r_x2 r_x3 r_x4) hex
  exact ⟨n, oB, h1, h2, act_of (fA := fun w => f_Dm_goals w x1 x2 x3 x4) (fun z m w' v' _ h => fw_goals h2 h) h3, h3⟩
theorem fw_order {z : ZQ} {m : Bool} {x1 x2 : Int} {w' : World} {n : Nat} {v' : Int} (hn : n = 0 ∨ n = 1) (h : f_Dm_order (zg z m) x1 x2 = some (w', n, v')) : f_L_order z m x1 x2 = some (zs z m w', rW n v') := by
  unfold f_L_order
  rw [h, bnd_s, gd_t hn]
  rfl
theorem an_order {wB : World} (hex : ∃ wA, II wA wB) {x1 x2 : Int} (r_x1 : R32 x1) (r_x2 : R32 x2) : ∃ (n : Nat) (oB : World × Int), f_Re_order wB x1 x2 = some oB ∧ (n = 0 ∨ n = 1) ∧ ActQ (fun z m => f_L_order z m x1 x2) wB wB (rW n oB.2) ∧ ∀ wA, II wA wB → ∃ w' v', f_Dm_order wA x1 x2 = some (w', n, v') ∧ (n = 0 → v' = oB.2) ∧ II w' wB := by
  obtain ⟨n, oB, h1, h2, h3⟩ := core_q (P := fun n => n = 0 ∨ n = 1) (fA := fun w => f_Dm_order w x1 x2) (fB := f_Re_order wB x1 x2) (a := 1) (b := 0) (c := 0) (wB := wB) (by
    intro n n' h h' e
    rcases h with rfl | rfl <;> rcases h' with rfl | rfl <;> first | rfl | exact absurd e (by decide)) (fun wA hA => (sq_order wB) ⟨hA, QBr.refl (II_VB hA)⟩ x1 x2 r_x1 r_x2) hex
  exact ⟨n, oB, h1, h2, act_of (fA := fun w => f_Dm_order w x1 x2) (fun z m w' v' _ h => fw_order h2 h) h3, h3⟩
theorem fw_joins {z : ZQ} {m : Bool} {x1 : Int} {w' : World} {n : Nat} {v' : Int} (hn : n = 0 ∨ n = 1) (h : f_Dm_joins (zg z m) x1 = some (w', n, v')) : f_L_joins z m x1 = some (zs z m w', rW n v') := by
  unfold f_L_joins
  rw [h, bnd_s, gd_t hn]
  rfl
theorem an_joins {wB : World} (hex : ∃ wA, II wA wB) {x1 : Int} (r_x1 : R32 x1) : ∃ (n : Nat) (oB : World × Int), f_Re_joins wB x1 = some oB ∧ (n = 0 ∨ n = 1) ∧ ActQ (fun z m => f_L_joins z m x1) wB wB (rW n oB.2) ∧ ∀ wA, II wA wB → ∃ w' v', f_Dm_joins wA x1 = some (w', n, v') ∧ (n = 0 → v' = oB.2) ∧ II w' wB := by
  obtain ⟨n, oB, h1, h2, h3⟩ := core_q (P := fun n => n = 0 ∨ n = 1) (fA := fun w => f_Dm_joins w x1) (fB := f_Re_joins wB x1) (a := 1) (b := 0) (c := 0) (wB := wB) (by
    intro n n' h h' e
    rcases h with rfl | rfl <;> rcases h' with rfl | rfl <;> first | rfl | exact absurd e (by decide)) (fun wA hA => (sq_joins wB) ⟨hA, QBr.refl (II_VB hA)⟩ x1 r_x1) hex
  exact ⟨n, oB, h1, h2, act_of (fA := fun w => f_Dm_joins w x1) (fun z m w' v' _ h => fw_joins h2 h) h3, h3⟩
theorem fw_indexes {z : ZQ} {m : Bool} {x1 : Int} {w' : World} {n : Nat} {v' : Int} (hn : n = 0 ∨ n = 1) (h : f_Dm_indexes (zg z m) x1 = some (w', n, v')) : f_L_indexes z m x1 = some (zs z m w', rW n v') := by
  unfold f_L_indexes
  rw [h, bnd_s, gd_t hn]
  rfl
theorem an_indexes {wB : World} (hex : ∃ wA, II wA wB) {x1 : Int} (r_x1 : R32 x1) : ∃ (n : Nat) (oB : World × Int), f_Re_indexes wB x1 = some oB ∧ (n = 0 ∨ n = 1) ∧ ActQ (fun z m => f_L_indexes z m x1) wB wB (rW n oB.2) ∧ ∀ wA, II wA wB → ∃ w' v', f_Dm_indexes wA x1 = some (w', n, v') ∧ (n = 0 → v' = oB.2) ∧ II w' wB := by
  obtain ⟨n, oB, h1, h2, h3⟩ := core_q (P := fun n => n = 0 ∨ n = 1) (fA := fun w => f_Dm_indexes w x1) (fB := f_Re_indexes wB x1) (a := 1) (b := 0) (c := 0) (wB := wB) (by
    intro n n' h h' e
    rcases h with rfl | rfl <;> rcases h' with rfl | rfl <;> first | rfl | exact absurd e (by decide)) (fun wA hA => (sq_indexes wB) ⟨hA, QBr.refl (II_VB hA)⟩ x1 r_x1) hex
  exact ⟨n, oB, h1, h2, act_of (fA := fun w => f_Dm_indexes w x1) (fun z m w' v' _ h => fw_indexes h2 h) h3, h3⟩
theorem an_broken {wB : World} (hex : ∃ wA, II wA wB) : ∃ oB : World × Int, f_Re_broken wB = some oB ∧ ∀ wA, II wA wB → ∃ w', f_Dm_broken wA = some (w', oB.2) ∧ II w' wB := by
  obtain ⟨wA0, h0⟩ := hex
  obtain ⟨oA0, oB0, h1, h2, h3, h4⟩ := sq_broken wB (⟨h0, QBr.refl (II_VB h0)⟩ : IB wB wA0 wB)
  refine ⟨oB0, h2, fun wA hA => ?_⟩
  obtain ⟨⟨w1, v1⟩, oB, g1, g2, g3, g4⟩ := sq_broken wB (⟨hA, QBr.refl (II_VB hA)⟩ : IB wB wA wB)
  have e : oB = oB0 := Option.some.inj (g2.symm.trans h2)
  subst e
  have g3 : v1 = oB.2 := g3
  subst g3
  exact ⟨w1, g1, II_back g4.2 (II_VB h0) g4.1⟩
theorem an_repair {wB : World} (hex : ∃ wA, II wA wB) : ∃ oB : World × Int, f_Re_repair wB = some oB ∧ ∀ wA, II wA wB → ∃ w', f_Dm_repair wA = some (w', oB.2) ∧ II w' wB := by
  obtain ⟨wA0, h0⟩ := hex
  obtain ⟨oA0, oB0, h1, h2, h3, h4⟩ := sq_repair wB (⟨h0, QBr.refl (II_VB h0)⟩ : IB wB wA0 wB)
  refine ⟨oB0, h2, fun wA hA => ?_⟩
  obtain ⟨⟨w1, v1⟩, oB, g1, g2, g3, g4⟩ := sq_repair wB (⟨hA, QBr.refl (II_VB hA)⟩ : IB wB wA wB)
  have e : oB = oB0 := Option.some.inj (g2.symm.trans h2)
  subst e
  have g3 : v1 = oB.2 := g3
  subst g3
  exact ⟨w1, g1, II_back g4.2 (II_VB h0) g4.1⟩
theorem ac_clear {wB : World} (hex : ∃ wA, II wA wB) : ∃ oB : World × Int, f_Re_clear wB = some oB ∧ ∀ wA, II wA wB → ∃ w', f_Dm_clear wA = some (w', oB.2) ∧ II w' oB.1 := by
  obtain ⟨wA0, h0⟩ := hex
  obtain ⟨oA0, oB0, h1, h2, h3, h4⟩ := st_clear h0
  refine ⟨oB0, h2, fun wA hA => ?_⟩
  obtain ⟨⟨w1, v1⟩, oB, g1, g2, g3, g4⟩ := st_clear hA
  have e : oB = oB0 := Option.some.inj (g2.symm.trans h2)
  subst e
  have g3 : v1 = oB.2 := g3
  subst g3
  exact ⟨w1, g1, g4⟩
