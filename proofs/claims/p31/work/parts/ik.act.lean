/-! THE LAW over one picture: act, what it does to the numbers -/
def Kb (wB wB' : World) (a b c : Int) : Prop := wB' 1 7 = wB 1 7 + a ∧ wB' 1 14 = wB 1 14 + b ∧ wB' 1 1 = wB 1 1 + c
def Db (wB wB' : World) : Prop := wB' 16 18 = wB 16 18 ∧ hB wB' = hB wB
def Pb (wB wB' : World) (h : Nat) : Prop := wB' 16 18 = wB 16 18 + 1 ∧ hB wB' = hB wB + h
def Zb (wB' : World) : Prop := wB' 16 18 = 0 ∧ hB wB' = 0
theorem xcd_neg {n : Nat} : xcd n < 0 := by unfold xcd; split; decide; split <;> decide
theorem pu_B {wA w' wB wB' : World} {k : Nat} {v : Int} (h : II wA wB) (h' : II w' wB') (hk : Pu wA w' k v) : Pb wB wB' k := by
  obtain ⟨a1, a2, a3, a4, a5, -⟩ := num_AB h
  obtain ⟨b1, b2, b3, b4, b5, -⟩ := num_AB h'
  exact ⟨by rw [← a3, ← b3, hk.1], by rw [← a4, ← b4, hk.2.1]⟩
theorem zb_B {w' wB' : World} (h' : II w' wB') (h : w' 94 0 = 0) : Zb wB' := by
  obtain ⟨b1, b2, b3, b4, b5, -⟩ := num_AB h'
  have e : wB' 16 18 = 0 := by rw [← b3]; exact h
  refine ⟨e, ?_⟩
  unfold hB
  rw [e]
  rfl
theorem db_B {wA w' wB wB' : World} (h : II wA wB) (h' : II w' wB') (hk : Dk wA w') : Db wB wB' := dk_B h h' hk
theorem kb_B {wA w' wB wB' : World} {a b c : Int} (h : II wA wB) (h' : II w' wB') (hk : Ky wA w' a b c) : Kb wB wB' a b c := ky_B h h' hk
section EFX
variable {wA wB : World}
theorem ef_facts (h0 : II wA wB) (hd : DecB wB) {x1 x2 x3 x4 x5 x6 x7 : Int} (r_x1 : R32 x1) (r_x2 : R32 x2) (r_x3 : R32 x3) (r_x4 : R32 x4) (r_x5 : R32 x5) (r_x6 : R32 x6) (r_x7 : R32 x7) : ∃ (wB' : World) (r : Int), ActQ (fun z m => f_L_facts z m x1 x2 x3 x4 x5 x6 x7) wB wB' r ∧ DecB wB' ∧ Kb wB wB' (if 0 ≤ r then 1 else 0) 0 0 ∧ Db wB wB' := by
  obtain ⟨n, oB, -, hn, hA, hall⟩ := ac_facts ⟨wA, h0⟩ r_x1 r_x2 r_x3 r_x4 r_x5 r_x6 r_x7
  obtain ⟨w', v', g1, g2, g3⟩ := hall wA h0
  obtain ⟨oA, oB2, s1, -, -, -, -, -, hE⟩ := sn_fact h0 x1 x2 x3 x4 x5 x6 x7 r_x1 r_x2 r_x3 r_x4 r_x5 r_x6 r_x7
  have e : (w', n, v') = oA := some_inj (s1.symm.trans g1)
  subst e
  by_cases q : n = 0
  · subst q
    obtain ⟨hk, hv⟩ := hE.1 rfl
    have ev := g2 rfl
    refine ⟨oB.1, oB.2, hA, hd.of h0 g3 hk.2.2.2, ?_, db_B h0 g3 hE.2.2⟩
    rw [if_pos (by rw [← ev]; exact hv)]
    exact kb_B h0 g3 hk
  · have hk := hE.2.1 q
    have hr : rW n oB.2 = xcd n := if_neg q
    have hneg := xcd_neg (n := n)
    refine ⟨oB.1, rW n oB.2, hA, hd.of h0 g3 hk.2.2.2, ?_, db_B h0 g3 hE.2.2⟩
    rw [if_neg (by omega)]
    exact kb_B h0 g3 hk
theorem ef_passes (h0 : II wA wB) (hd : DecB wB)  : ∃ (wB' : World) (r : Int), ActQ (fun z m => f_L_passes z m ) wB wB' r ∧ DecB wB' ∧ Kb wB wB' 0 0 (if 0 ≤ r then 1 else 0) ∧ Db wB wB' := by
  obtain ⟨n, oB, -, hn, hA, hall⟩ := ac_passes ⟨wA, h0⟩ 
  obtain ⟨w', v', g1, g2, g3⟩ := hall wA h0
  obtain ⟨oA, oB2, s1, -, -, -, -, -, hE⟩ := sn_pass h0  
  have e : (w', n, v') = oA := some_inj (s1.symm.trans g1)
  subst e
  by_cases q : n = 0
  · subst q
    obtain ⟨hk, hv⟩ := hE.1 rfl
    have ev := g2 rfl
    refine ⟨oB.1, oB.2, hA, hd.of h0 g3 hk.2.2.2, ?_, db_B h0 g3 hE.2.2⟩
    rw [if_pos (by rw [← ev]; exact hv)]
    exact kb_B h0 g3 hk
  · have hk := hE.2.1 q
    have hr : rW n oB.2 = xcd n := if_neg q
    have hneg := xcd_neg (n := n)
    refine ⟨oB.1, rW n oB.2, hA, hd.of h0 g3 hk.2.2.2, ?_, db_B h0 g3 hE.2.2⟩
    rw [if_neg (by omega)]
    exact kb_B h0 g3 hk
theorem ef_drops (h0 : II wA wB) (hd : DecB wB) {x1 : Int} (r_x1 : R32 x1) : ∃ (wB' : World) (r : Int), ActQ (fun z m => f_L_drops z m x1) wB wB' r ∧ DecB wB' ∧ Kb wB wB' 0 0 0 ∧ Db wB wB' := by
  obtain ⟨n, oB, -, hn, hA, hall⟩ := ac_drops ⟨wA, h0⟩ r_x1
  obtain ⟨w', v', g1, g2, g3⟩ := hall wA h0
  obtain ⟨oA, oB2, s1, -, -, -, -, -, hE⟩ := sn_drop h0 x1 r_x1
  have e : (w', n, v') = oA := some_inj (s1.symm.trans g1)
  subst e
  exact ⟨oB.1, rW n oB.2, hA, hd.of h0 g3 hE.1.2.2.2, kb_B h0 g3 hE.1, db_B h0 g3 hE.2⟩
theorem ef_removes (h0 : II wA wB) (hd : DecB wB) {x1 : Int} (r_x1 : R32 x1) : ∃ (wB' : World) (r : Int), ActQ (fun z m => f_L_removes z m x1) wB wB' r ∧ DecB wB' ∧ Kb wB wB' 0 0 0 ∧ Db wB wB' := by
  obtain ⟨n, oB, -, hn, hA, hall⟩ := ac_removes ⟨wA, h0⟩ r_x1
  obtain ⟨w', v', g1, g2, g3⟩ := hall wA h0
  obtain ⟨oA, oB2, s1, -, -, -, -, -, hE⟩ := sn_remove h0 x1 r_x1
  have e : (w', n, v') = oA := some_inj (s1.symm.trans g1)
  subst e
  exact ⟨oB.1, rW n oB.2, hA, hd.of h0 g3 hE.1.2.2.2, kb_B h0 g3 hE.1, db_B h0 g3 hE.2⟩
theorem ef_heads (h0 : II wA wB) (hd : DecB wB) {x1 x2 x3 x4 : Int} (r_x1 : R32 x1) (r_x2 : R32 x2) (r_x3 : R32 x3) (r_x4 : R32 x4) : ∃ (wB' : World) (r : Int), ActQ (fun z m => f_L_heads z m x1 x2 x3 x4) wB wB' r ∧ DecB wB' ∧ Kb wB wB' 0 0 0 ∧ Db wB wB' := by
  obtain ⟨n, oB, -, hn, hA, hall⟩ := ac_heads ⟨wA, h0⟩ r_x1 r_x2 r_x3 r_x4
  obtain ⟨w', v', g1, g3⟩ := hall wA h0
  obtain ⟨hk, hD⟩ := kp_head g1
  exact ⟨oB, rW n 1, hA, hd.of h0 g3 hk.2.2.2, kb_B h0 g3 hk, db_B h0 g3 hD⟩
theorem ef_atoms (h0 : II wA wB) (hd : DecB wB) {x1 x2 x3 x4 x5 : Int} (r_x1 : R32 x1) (r_x2 : R32 x2) (r_x3 : R32 x3) (r_x4 : R32 x4) (r_x5 : R32 x5) : ∃ (wB' : World) (r : Int), ActQ (fun z m => f_L_atoms z m x1 x2 x3 x4 x5) wB wB' r ∧ DecB wB' ∧ Kb wB wB' 0 0 0 ∧ (0 < r → Pb wB wB' (if x2 = 0 then 0 else 1)) ∧ (¬ 0 < r → Db wB wB') := by
  obtain ⟨n, oB, -, hn, hA, hall⟩ := ac_atoms ⟨wA, h0⟩ r_x1 r_x2 r_x3 r_x4 r_x5
  obtain ⟨w', v', g1, g2, g3⟩ := hall wA h0
  obtain ⟨nd, hnd⟩ : ∃ nd : Nat, wA 94 0 = (nd : Int) := ⟨(wA 94 0).toNat, by
    have h1 := (num_AB h0).2.2.1
    have h2 := (num_rng h0).2.2.1
    omega⟩
  obtain ⟨hk, hp, hD⟩ := kp_atom hnd g1
  by_cases q : n = 0
  · subst q
    have hP := hp rfl
    have ev := g2 rfl
    refine ⟨oB.1, oB.2, hA, hd.of h0 g3 hk.2.2.2, kb_B h0 g3 hk, fun _ => pu_B h0 g3 hP, fun h => absurd (by rw [← ev]; exact hP.2.2) h⟩
  · have hr : rW n oB.2 = xcd n := if_neg q
    have hneg := xcd_neg (n := n)
    exact ⟨oB.1, rW n oB.2, hA, hd.of h0 g3 hk.2.2.2, kb_B h0 g3 hk, fun h => by omega, fun _ => db_B h0 g3 (hD q)⟩
theorem ef_compares (h0 : II wA wB) (hd : DecB wB) {x1 x2 x3 : Int} (r_x1 : R32 x1) (r_x2 : R32 x2) (r_x3 : R32 x3) : ∃ (wB' : World) (r : Int), ActQ (fun z m => f_L_compares z m x1 x2 x3) wB wB' r ∧ DecB wB' ∧ Kb wB wB' 0 0 0 ∧ (0 < r → Pb wB wB' 0) ∧ (¬ 0 < r → Db wB wB') := by
  obtain ⟨n, oB, -, hn, hA, hall⟩ := ac_compares ⟨wA, h0⟩ r_x1 r_x2 r_x3
  obtain ⟨w', v', g1, g2, g3⟩ := hall wA h0
  obtain ⟨nd, hnd⟩ : ∃ nd : Nat, wA 94 0 = (nd : Int) := ⟨(wA 94 0).toNat, by
    have h1 := (num_AB h0).2.2.1
    have h2 := (num_rng h0).2.2.1
    omega⟩
  obtain ⟨hk, hp, hD⟩ := kp_compare hnd g1
  by_cases q : n = 0
  · subst q
    have hP := hp rfl
    have ev := g2 rfl
    refine ⟨oB.1, oB.2, hA, hd.of h0 g3 hk.2.2.2, kb_B h0 g3 hk, fun _ => pu_B h0 g3 hP, fun h => absurd (by rw [← ev]; exact hP.2.2) h⟩
  · have hr : rW n oB.2 = xcd n := if_neg q
    have hneg := xcd_neg (n := n)
    exact ⟨oB.1, rW n oB.2, hA, hd.of h0 g3 hk.2.2.2, kb_B h0 g3 hk, fun h => by omega, fun _ => db_B h0 g3 (hD q)⟩
theorem ef_adds (h0 : II wA wB) (hd : DecB wB) {x1 x2 x3 : Int} (r_x1 : R32 x1) (r_x2 : R32 x2) (r_x3 : R32 x3) : ∃ (wB' : World) (r : Int), ActQ (fun z m => f_L_adds z m x1 x2 x3) wB wB' r ∧ DecB wB' ∧ Kb wB wB' 0 0 0 ∧ (0 < r → Pb wB wB' 0) ∧ (¬ 0 < r → Db wB wB') := by
  obtain ⟨n, oB, -, hn, hA, hall⟩ := ac_adds ⟨wA, h0⟩ r_x1 r_x2 r_x3
  obtain ⟨w', v', g1, g2, g3⟩ := hall wA h0
  obtain ⟨nd, hnd⟩ : ∃ nd : Nat, wA 94 0 = (nd : Int) := ⟨(wA 94 0).toNat, by
    have h1 := (num_AB h0).2.2.1
    have h2 := (num_rng h0).2.2.1
    omega⟩
  obtain ⟨hk, hp, hD⟩ := kp_add hnd g1
  by_cases q : n = 0
  · subst q
    have hP := hp rfl
    have ev := g2 rfl
    refine ⟨oB.1, oB.2, hA, hd.of h0 g3 hk.2.2.2, kb_B h0 g3 hk, fun _ => pu_B h0 g3 hP, fun h => absurd (by rw [← ev]; exact hP.2.2) h⟩
  · have hr : rW n oB.2 = xcd n := if_neg q
    have hneg := xcd_neg (n := n)
    exact ⟨oB.1, rW n oB.2, hA, hd.of h0 g3 hk.2.2.2, kb_B h0 g3 hk, fun h => by omega, fun _ => db_B h0 g3 (hD q)⟩
theorem ef_enters (h0 : II wA wB) (hd : DecB wB)  : ∃ (wB' : World) (r : Int), ActQ (fun z m => f_L_enters z m ) wB wB' r ∧ DecB wB' ∧ (0 ≤ r → Kb wB wB' 0 1 0 ∧ Zb wB') ∧ (¬ 0 ≤ r → Kb wB wB' 0 0 0 ∧ Db wB wB') := by
  obtain ⟨n, oB, -, hn, hA, hall⟩ := ac_enters ⟨wA, h0⟩ 
  obtain ⟨w', v', g1, g2, g3⟩ := hall wA h0
  obtain ⟨oA, oB2, s1, -, -, -, -, -, hE⟩ := sn_enter h0  
  have e : (w', n, v') = oA := some_inj (s1.symm.trans g1)
  subst e
  by_cases q : n = 0
  · subst q
    obtain ⟨hk, hz, hv⟩ := hE.1 rfl
    have ev := g2 rfl
    exact ⟨oB.1, oB.2, hA, hd.of h0 g3 hk.2.2.2, fun _ => ⟨kb_B h0 g3 hk, zb_B g3 hz⟩, fun h => absurd (by rw [← ev]; exact hv) h⟩
  · obtain ⟨hk, hD⟩ := hE.2 q
    have hr : rW n oB.2 = xcd n := if_neg q
    have hneg := xcd_neg (n := n)
    exact ⟨oB.1, rW n oB.2, hA, hd.of h0 g3 hk.2.2.2, fun h => by omega, fun _ => ⟨kb_B h0 g3 hk, db_B h0 g3 hD⟩⟩
theorem ef_denies (h0 : II wA wB) (hd : DecB wB)  : ∃ (wB' : World) (r : Int), ActQ (fun z m => f_L_denies z m ) wB wB' r ∧ DecB wB' ∧ Kb wB wB' 0 0 0 ∧ (0 ≤ r → Zb wB') ∧ (¬ 0 ≤ r → Db wB wB') := by
  obtain ⟨n, oB, -, hn, hA, hall⟩ := ac_denies ⟨wA, h0⟩ 
  obtain ⟨w', v', g1, g2, g3⟩ := hall wA h0
  obtain ⟨oA, oB2, s1, -, -, -, -, -, hE⟩ := sn_deny h0  
  have e : (w', n, v') = oA := some_inj (s1.symm.trans g1)
  subst e
  obtain ⟨hk, hp, hD⟩ := hE
  by_cases q : n = 0
  · subst q
    obtain ⟨hz, hv⟩ := hp rfl
    have ev := g2 rfl
    exact ⟨oB.1, oB.2, hA, hd.of h0 g3 hk.2.2.2, kb_B h0 g3 hk, fun _ => zb_B g3 hz, fun h => absurd (by rw [← ev]; exact hv) h⟩
  · have hr : rW n oB.2 = xcd n := if_neg q
    have hneg := xcd_neg (n := n)
    exact ⟨oB.1, rW n oB.2, hA, hd.of h0 g3 hk.2.2.2, kb_B h0 g3 hk, fun h => by omega, fun _ => db_B h0 g3 (hD q)⟩
end EFX
/-- an action over one picture: the same answer from any mill of it -/
def Ac (f : ZQ → Bool → Option (ZQ × Int)) (nn : Nat → Int) (wB : World) (k n : Nat) : Prop := ∃ (wB' : World) (r : Int), (∀ z m, II (zg z m) wB → z.2.2 = nn → ∃ w', f z m = some (zs z m w', r) ∧ II w' wB') ∧ DecB wB' ∧ Ef wB wB' k n r
section ACT
variable {nn : Nat → Int} {wA wB : World} {k n : Nat} {F G : ZQ → Bool → Option (ZQ × Int)}
theorem Ac_congr (h : ∀ z m, z.2.2 = nn → F z m = G z m) (hG : Ac G nn wB k n) : Ac F nn wB k n := by
  obtain ⟨wB', r, h1, h2, h3⟩ := hG
  exact ⟨wB', r, fun z m hz hn => by rw [h z m hn]; exact h1 z m hz hn, h2, h3⟩
theorem Ac_ite {c : Prop} [Decidable c] (h1 : c → Ac F nn wB k n) (h2 : ¬ c → Ac G nn wB k n) : Ac (fun z m => if c then F z m else G z m) nn wB k n := by
  by_cases q : c
  · exact Ac_congr (fun z m _ => if_pos q) (h1 q)
  · exact Ac_congr (fun z m _ => if_neg q) (h2 q)
theorem bnd_eta {o : Option (ZQ × Int)} : (bnd o fun v => some (v.1, v.2)) = o := by cases o <;> rfl
theorem Ac_q {wB' : World} {r : Int} (h : ActQ F wB wB' r) (hd : DecB wB') (hE : Ef wB wB' k n r) : Ac F nn wB k n := ⟨wB', r, fun z m hz _ => h z m hz, hd, hE⟩
/-- nothing told by the number: facts, rules, hour and draft as they were -/
theorem Ef_q {wB' : World} {r : Int} (hk : Kb wB wB' 0 0 0) (hD : Db wB wB') (h1 : ¬ (k < 3 ∧ 0 ≤ r)) (h2 : ¬ (11 ≤ k ∧ k ≤ 13 ∧ 0 ≤ r)) (h3 : ¬ (k = 4 ∧ n % 5 = 0 ∧ 0 ≤ r)) (h4 : ¬ (7 ≤ k ∧ k ≤ 10 ∧ 0 < r)) (h5 : ¬ ecl k n r) : Ef wB wB' k n r := by
  have q0 : e0 k r = 0 := if_neg h1
  have q1 : e1 k r = 0 := if_neg h2
  have q5 : e5 k n r = 0 := if_neg h3
  have qp : ep k r = 0 := if_neg h4
  have qh : eh k n r = 0 := if_neg (fun h => h4 ⟨h.1, by omega, h.2.2.1⟩)
  unfold Ef
  rw [q0, q1, q5, qp, qh]
  exact ⟨hk.1, hk.2.1, hk.2.2, fun h => absurd h h5, fun _ => ⟨by rw [hD.1, Int.add_zero], by rw [hD.2, Int.add_zero]⟩⟩
theorem Ef_z {wB' : World} {r : Int} (hk : Kb wB wB' 0 0 0) (hD : Zb wB') (h1 : ¬ (k < 3 ∧ 0 ≤ r)) (h2 : ¬ (11 ≤ k ∧ k ≤ 13 ∧ 0 ≤ r)) (h3 : ¬ (k = 4 ∧ n % 5 = 0 ∧ 0 ≤ r)) (h5 : ecl k n r) : Ef wB wB' k n r := by
  have q0 : e0 k r = 0 := if_neg h1
  have q1 : e1 k r = 0 := if_neg h2
  have q5 : e5 k n r = 0 := if_neg h3
  unfold Ef
  rw [q0, q1, q5]
  exact ⟨hk.1, hk.2.1, hk.2.2, fun _ => hD, fun h => absurd h5 h⟩
theorem L_fact (h0 : II wA wB) (hd : DecB wB) {s1 s2 s3 s4 s5 s6 s7 : Int} (hk : k < 3) (r1 : R32 s1) (r2 : R32 s2) (r3 : R32 s3) (r4 : R32 s4) (r5 : R32 s5) (r6 : R32 s6) (r7 : R32 s7) : Ac (fun z m => f_L_act_194 z m s1 s2 s3 s4 s5 s6 s7) nn wB k n := by
  obtain ⟨wB', r, hA, hd', hK, hD⟩ := ef_facts h0 hd r1 r2 r3 r4 r5 r6 r7
  refine Ac_congr (G := fun z m => f_L_facts z m s1 s2 s3 s4 s5 s6 s7) (fun z m _ => bnd_eta) (Ac_q hA hd' ?_)
  have q0 : e0 k r = if 0 ≤ r then 1 else 0 := by
    unfold e0
    by_cases q : 0 ≤ r
    · rw [if_pos q, if_pos ⟨hk, q⟩]
    · rw [if_neg q, if_neg (fun h => q h.2)]
  have q1 : e1 k r = 0 := if_neg (by omega)
  have q5 : e5 k n r = 0 := if_neg (by omega)
  have qp : ep k r = 0 := if_neg (by omega)
  have qh : eh k n r = 0 := if_neg (by omega)
  unfold Ef
  rw [q0, q1, q5, qp, qh]
  exact ⟨hK.1, hK.2.1, hK.2.2, fun h => by omega, fun _ => ⟨by rw [hD.1, Int.add_zero], by rw [hD.2, Int.add_zero]⟩⟩
theorem L_drop (h0 : II wA wB) (hd : DecB wB) {s : Int} (r1 : R32 s) : Ac (fun z m => f_L_act_214 z m s) nn wB 3 n := by
  obtain ⟨wB', r, hA, hd', hK, hD⟩ := ef_drops h0 hd r1
  exact Ac_congr (G := fun z m => f_L_drops z m s) (fun z m _ => bnd_eta) (Ac_q hA hd' (Ef_q hK hD (by omega) (by omega) (by omega) (by omega) (by omega)))
theorem L_pass (h0 : II wA wB) (hd : DecB wB) (hn : n % 5 = 0) : Ac (fun z m => bnd (f_L_passes z m) fun v => some (v.1, v.2)) nn wB 4 n := by
  obtain ⟨wB', r, hA, hd', hK, hD⟩ := ef_passes h0 hd
  refine Ac_congr (G := fun z m => f_L_passes z m) (fun z m _ => bnd_eta) (Ac_q hA hd' ?_)
  have q5 : e5 4 n r = if 0 ≤ r then 1 else 0 := by
    unfold e5
    by_cases q : 0 ≤ r
    · rw [if_pos q, if_pos ⟨rfl, hn, q⟩]
    · rw [if_neg q, if_neg (fun h => q h.2.2)]
  have q0 : e0 4 r = 0 := if_neg (by omega)
  have q1 : e1 4 r = 0 := if_neg (by omega)
  have qp : ep 4 r = 0 := if_neg (by omega)
  have qh : eh 4 n r = 0 := if_neg (by omega)
  unfold Ef
  rw [q0, q1, q5, qp, qh]
  exact ⟨hK.1, hK.2.1, hK.2.2, fun h => by omega, fun _ => ⟨by rw [hD.1, Int.add_zero], by rw [hD.2, Int.add_zero]⟩⟩
theorem L_size (h0 : II wA wB) (hd : DecB wB) {s : Int} (r1 : R32 s) (hn : n % 5 ≠ 0) : Ac (fun z m => bnd (f_L_size z m s) fun v => some (v.1, v.2)) nn wB 4 n := by
  obtain ⟨c, oB, -, -, hA, -⟩ := an_size ⟨wA, h0⟩ r1
  exact Ac_congr (G := fun z m => f_L_size z m s) (fun z m _ => bnd_eta) (Ac_q hA hd (Ef_q ⟨by omega, by omega, by omega⟩ ⟨rfl, rfl⟩ (by omega) (by omega) (by omega) (by omega) (by omega)))
theorem L_head (h0 : II wA wB) (hd : DecB wB) {s1 s2 s3 s4 : Int} (hk : k = 5 ∨ k = 6) (r1 : R32 s1) (r2 : R32 s2) (r3 : R32 s3) (r4 : R32 s4) : Ac (fun z m => f_L_act_277 z m s1 s2 s3 s4) nn wB k n := by
  obtain ⟨wB', r, hA, hd', hK, hD⟩ := ef_heads h0 hd r1 r2 r3 r4
  exact Ac_congr (G := fun z m => f_L_heads z m s1 s2 s3 s4) (fun z m _ => bnd_eta) (Ac_q hA hd' (Ef_q hK hD (by omega) (by omega) (by omega) (by omega) (by omega)))
theorem Ef_p {wB' : World} {r : Int} {h : Nat} (hk : Kb wB wB' 0 0 0) (hk7 : 7 ≤ k ∧ k ≤ 10) (hh : (h : Int) = if k ≤ 9 ∧ 0 < n / 3 % 5 then 1 else 0) (hP : 0 < r → Pb wB wB' h) (hD : ¬ 0 < r → Db wB wB') : Ef wB wB' k n r := by
  have q0 : e0 k r = 0 := if_neg (by omega)
  have q1 : e1 k r = 0 := if_neg (by omega)
  have q5 : e5 k n r = 0 := if_neg (by omega)
  unfold Ef
  rw [q0, q1, q5]
  refine ⟨hk.1, hk.2.1, hk.2.2, fun h => by omega, fun _ => ?_⟩
  by_cases q : 0 < r
  · have qp : ep k r = 1 := if_pos ⟨hk7.1, hk7.2, q⟩
    have qh : eh k n r = (h : Int) := by
      rw [hh]
      unfold eh
      by_cases q2 : k ≤ 9 ∧ 0 < n / 3 % 5
      · rw [if_pos q2, if_pos ⟨hk7.1, q2.1, q, q2.2⟩]
      · rw [if_neg q2, if_neg (fun z => q2 ⟨z.2.1, z.2.2.2⟩)]
    rw [qp, qh]
    have := hP q
    exact ⟨this.1, by rw [this.2]; omega⟩
  · have qp : ep k r = 0 := if_neg (fun z => q z.2.2)
    have qh : eh k n r = 0 := if_neg (fun z => q z.2.2.1)
    rw [qp, qh]
    have := hD q
    exact ⟨by rw [this.1, Int.add_zero], by rw [this.2, Int.add_zero]⟩
theorem L_atom (h0 : II wA wB) (hd : DecB wB) {s1 s2 s3 s4 s5 : Int} (hk : k = 7 ∨ k = 8 ∨ k = 9) (hs : s2 = if 0 < n / 3 % 5 then 1 else 0) (r1 : R32 s1) (r3 : R32 s3) (r4 : R32 s4) (r5 : R32 s5) : Ac (fun z m => f_L_act_335 z m s1 s2 s3 s4 s5) nn wB k n := by
  have r2 : R32 s2 := by rw [hs]; split <;> exact ⟨by decide, by decide⟩
  obtain ⟨wB', r, hA, hd', hK, hP, hD⟩ := ef_atoms h0 hd r1 r2 r3 r4 r5
  refine Ac_congr (G := fun z m => f_L_atoms z m s1 s2 s3 s4 s5) (fun z m _ => bnd_eta) (Ac_q hA hd' (Ef_p hK (by omega) ?_ hP hD))
  by_cases q : 0 < n / 3 % 5
  · rw [if_pos q] at hs
    rw [hs, if_neg z10, if_pos ⟨by omega, q⟩]
    rfl
  · rw [if_neg q] at hs
    rw [hs, if_pos rfl, if_neg (fun z => q z.2)]
    rfl
theorem L_comp (h0 : II wA wB) (hd : DecB wB) {s1 s2 s3 : Int} (r1 : R32 s1) (r2 : R32 s2) (r3 : R32 s3) : Ac (fun z m => bnd (f_L_compares z m s1 s2 s3) fun v => some (v.1, v.2)) nn wB 10 n := by
  obtain ⟨wB', r, hA, hd', hK, hP, hD⟩ := ef_compares h0 hd r1 r2 r3
  exact Ac_congr (G := fun z m => f_L_compares z m s1 s2 s3) (fun z m _ => bnd_eta) (Ac_q hA hd' (Ef_p hK (by omega) (by rw [if_neg (fun z => absurd z.1 (by decide))]; rfl) hP hD))
theorem L_add (h0 : II wA wB) (hd : DecB wB) {s1 s2 s3 : Int} (r1 : R32 s1) (r2 : R32 s2) (r3 : R32 s3) : Ac (fun z m => bnd (f_L_adds z m s1 s2 s3) fun v => some (v.1, v.2)) nn wB 10 n := by
  obtain ⟨wB', r, hA, hd', hK, hP, hD⟩ := ef_adds h0 hd r1 r2 r3
  exact Ac_congr (G := fun z m => f_L_adds z m s1 s2 s3) (fun z m _ => bnd_eta) (Ac_q hA hd' (Ef_p hK (by omega) (by rw [if_neg (fun z => absurd z.1 (by decide))]; rfl) hP hD))
theorem L_enter (h0 : II wA wB) (hd : DecB wB) (hk : k = 11 ∨ k = 12 ∨ k = 13) : Ac (fun z m => bnd (f_L_enters z m) fun v => some (v.1, v.2)) nn wB k n := by
  obtain ⟨wB', r, hA, hd', hP, hD⟩ := ef_enters h0 hd
  refine Ac_congr (G := fun z m => f_L_enters z m) (fun z m _ => bnd_eta) (Ac_q hA hd' ?_)
  by_cases q : 0 ≤ r
  · obtain ⟨hK, hZ⟩ := hP q
    have q0 : e0 k r = 0 := if_neg (by omega)
    have q1 : e1 k r = 1 := if_pos (by omega)
    have q5 : e5 k n r = 0 := if_neg (by omega)
    unfold Ef
    rw [q0, q1, q5]
    exact ⟨hK.1, hK.2.1, hK.2.2, fun _ => hZ, fun h => absurd (Or.inl (by omega)) h⟩
  · obtain ⟨hK, hZ⟩ := hD q
    exact Ef_q hK hZ (by omega) (by omega) (by omega) (by omega) (by omega)
theorem L_deny (h0 : II wA wB) (hd : DecB wB) (hn : n % 3 = 0) : Ac (fun z m => bnd (f_L_denies z m) fun v => some (v.1, v.2)) nn wB 14 n := by
  obtain ⟨wB', r, hA, hd', hK, hP, hD⟩ := ef_denies h0 hd
  refine Ac_congr (G := fun z m => f_L_denies z m) (fun z m _ => bnd_eta) (Ac_q hA hd' ?_)
  by_cases q : 0 ≤ r
  · exact Ef_z hK (hP q) (by omega) (by omega) (by omega) (Or.inr (Or.inl ⟨rfl, hn, q⟩))
  · exact Ef_q hK (hD q) (by omega) (by omega) (by omega) (by omega) (by omega)
theorem L_clear (h0 : II wA wB) (hd : DecB wB) (hn : n % 3 = 1) : Ac (fun z m => bnd (f_Dm_clear (zg z m)) fun v => bl (zs z m v.1) fun z' => some (z', v.2)) nn wB 14 n := by
  obtain ⟨oB, -, hall⟩ := ac_clear ⟨wA, h0⟩
  obtain ⟨w', g1, g2⟩ := hall wA h0
  obtain ⟨hk, h94⟩ := kp_clear g1
  refine ⟨oB.1, oB.2, fun z m hz _ => ?_, hd.of h0 g2 hk.2.2.2, Ef_z (kb_B h0 g2 hk) (zb_B g2 h94) (by omega) (by omega) (by omega) (Or.inr (Or.inr ⟨rfl, hn⟩))⟩
  obtain ⟨w2, t1, t2⟩ := hall _ hz
  exact ⟨w2, by dsimp only; rw [t1, bnd_s, bl_s], t2⟩
theorem L_rem (h0 : II wA wB) (hd : DecB wB) {s : Int} (r1 : R32 s) (hk : (k = 14 ∧ n % 3 = 2) ∨ k = 15) : Ac (fun z m => bnd (f_L_removes z m s) fun v => some (v.1, v.2)) nn wB k n := by
  obtain ⟨wB', r, hA, hd', hK, hD⟩ := ef_removes h0 hd r1
  exact Ac_congr (G := fun z m => f_L_removes z m s) (fun z m _ => bnd_eta) (Ac_q hA hd' (Ef_q hK hD (by omega) (by omega) (by omega) (by omega) (by omega)))
end ACT
