/-! THE CLASS: the plan of a rule -/
theorem and_vb : ∀ (v m : Nat), (2 ^ v &&& m = 0 ↔ m.testBit v = false) := by
  intro v m
  constructor
  · intro h
    have := congrArg (fun x => x.testBit v) h
    simpa [Nat.testBit_and] using this
  · intro h
    refine Nat.eq_of_testBit_eq fun i => ?_
    rw [Nat.testBit_and, Nat.testBit_two_pow, Nat.zero_testBit]
    by_cases e : v = i
    · rw [← e, h]; simp
    · simp [e]
theorem vfrA_n {w : World} {b p : Nat} {f : Nat → Int} (hp : p < 6) (htm : ∀ c, c < 3 → w (b + 3) (3 * p + c) = f c ∧ -8 ≤ f c ∧ f c < 128) : f_Bo_variablesFrom w b (p : Int) 0 = some ((vfr f 3 : Nat) : Int) := by
  have hv : ∀ n, n ≤ 3 → vfr f n < 256 := fun n => by
    induction n with
    | zero => intro _; show 0 < 256; omega
    | succ n ih =>
      intro h
      show vfr f n ||| vb (f n) < 256
      exact Nat.or_lt_two_pow (n := 8) (ih (by omega)) (vb_lt (htm n (by omega)).2)
  unfold f_Bo_variablesFrom f_Bo_variablesFrom_5
  refine lp_go (F := fun z : (Int × Int) => f_Bo_variablesFrom_5B w b (p : Int) z.1 z.2) (fun k => (((vfr f k : Nat) : Int), (k : Int))) _ 3 (fun k hk => ?_) ?_
  · show f_Bo_variablesFrom_5B w b (p : Int) ((vfr f k : Nat) : Int) (k : Int) = some (Sum.inl (((vfr f (k + 1) : Nat) : Int), ((k + 1 : Nat) : Int)))
    obtain ⟨h1, h2⟩ := htm k hk
    have a1 := hv k (by omega)
    have a2 := vb_lt h2
    unfold f_Bo_variablesFrom_5B
    rw [if_neg (by omega), termOf_n hp hk, bnd_s, h1, variableBit_n h2, bnd_s, bl_s, bl_s, ior_n (by omega) (by omega), wr_of (x := (k : Int) + 1) ⟨by omega, by omega⟩]
    rfl
  · show f_Bo_variablesFrom_5B w b (p : Int) ((vfr f 3 : Nat) : Int) ((3 : Nat) : Int) = _
    unfold f_Bo_variablesFrom_5B
    rw [if_pos (by decide)]
theorem knownA_n {w : World} {b p co known : Nat} {f : Nat → Int} (hp : p < 6) (hco : co ≤ 3) (hkn : known < 256) (htm : ∀ c, c < 3 → w (b + 3) (3 * p + c) = f c ∧ -8 ≤ f c ∧ f c < 128) : f_Bo_knownColumns w b (p : Int) (co : Int) (known : Int) = some ((kcs f known co : Nat) : Int) := by
  unfold f_Bo_knownColumns f_Bo_knownColumns_6
  refine lp_go (F := fun z : (Int × Int) => f_Bo_knownColumns_6B w b (p : Int) (co : Int) (known : Int) z.1 z.2) (fun k => (((kcs f known k : Nat) : Int), (k : Int))) _ co (fun k hk => ?_) ?_
  · show f_Bo_knownColumns_6B w b (p : Int) (co : Int) (known : Int) ((kcs f known k : Nat) : Int) (k : Int) = some (Sum.inl (((kcs f known (k + 1) : Nat) : Int), ((k + 1 : Nat) : Int)))
    obtain ⟨h1, h2⟩ := htm k (by omega)
    have a1 := kcs_8 (f := f) (known := known) (show k ≤ 3 by omega)
    have hk8 : 2 ^ k < 8 := Nat.lt_of_le_of_lt (Nat.pow_le_pow_right (by omega) (show k ≤ 2 by omega)) (by decide)
    have e46 : ∀ y : Nat, y < 8 → f_Bo_knownColumns_46 w b (p : Int) (co : Int) (known : Int) (k : Int) ((kcs f known k : Nat) : Int) (y : Int) = some (Sum.inl (((kcs f known k ||| y : Nat) : Int), ((k + 1 : Nat) : Int))) := fun y hy => by
      unfold f_Bo_knownColumns_46
      rw [bl_s, bl_s, ior_n (by omega) (by omega), wr_of (x := (k : Int) + 1) ⟨by omega, by omega⟩]
      rfl
    have e38 : f_Bo_knownColumns_38 w b (p : Int) (co : Int) (known : Int) (k : Int) ((kcs f known k : Nat) : Int) = some (Sum.inl (((kcs f known k ||| 2 ^ k : Nat) : Int), ((k + 1 : Nat) : Int))) := by
      have hs : ishl 1 (k : Int) = ((2 ^ k : Nat) : Int) := bit_k (by omega)
      unfold f_Bo_knownColumns_38
      rw [hs, e46 _ hk8]
    have e46z : f_Bo_knownColumns_46 w b (p : Int) (co : Int) (known : Int) (k : Int) ((kcs f known k : Nat) : Int) 0 = some (Sum.inl (((kcs f known k ||| 0 : Nat) : Int), ((k + 1 : Nat) : Int))) := e46 0 (by omega)
    have hks : kcs f known (k + 1) = kcs f known k ||| (if 0 ≤ f k ∨ known.testBit (-1 - f k).toNat = true then 2 ^ k else 0) := rfl
    have hvb := vb_lt h2
    unfold f_Bo_knownColumns_6B
    rw [if_neg (by omega), termOf_n hp (by omega), bnd_s, h1, variableBit_n h2, bnd_s, iand_n (by omega) (by omega), e38, e46z, hks]
    by_cases q : 0 ≤ f k
    · rw [if_pos q, if_pos (Or.inl q)]
    · rw [if_neg q]
      have hvb2 : vb (f k) = 2 ^ (-1 - f k).toNat := if_pos (by omega)
      have hab := and_vb (-1 - f k).toNat known
      rw [hvb2]
      by_cases t : known.testBit (-1 - f k).toNat = true
      · rw [if_pos (Or.inr t), if_neg (fun z => by have := hab.mp (by omega); rw [t] at this; cases this)]
      · have t0 : known.testBit (-1 - f k).toNat = false := by simpa using t
        rw [if_pos (by rw [hab.mpr t0]; rfl), if_neg (fun z => z.elim q t)]
  · show f_Bo_knownColumns_6B w b (p : Int) (co : Int) (known : Int) ((kcs f known co : Nat) : Int) (co : Int) = _
    unfold f_Bo_knownColumns_6B
    rw [if_pos (Int.le_refl _)]
/-- one turn: the atom is looked for -/
theorem selA_n {w : World} {b known taken turn : Nat} (hS : WfS w) (hb0 : w b 0 = ((RB w b).ln : Int)) (hW : WfL (SA w) (RB w b)) (hkn : known < 256) (htk : taken < 32) (hturn : turn < 3) : f_Pl_make_28 w b (known : Int) (taken : Int) (turn : Int) (-1) 0 0 = lp (fun z : (Int × Int × Int) => f_Pl_make_28B w b (known : Int) (taken : Int) (turn : Int) z.1 z.2.1 z.2.2) ((selP (SA w) (RB w b) known taken (RB w b).ln).1, (((selP (SA w) (RB w b) known taken (RB w b).ln).2 : Nat) : Int), ((RB w b).ln : Int)) := by
  obtain ⟨R, hR⟩ : ∃ R, R = RB w b := ⟨_, rfl⟩
  rw [← hR] at hb0 hW ⊢
  obtain ⟨h5, hfm, hat, hcmp, htm⟩ := hW
  have hD := hS.D
  have e1 : ∀ p, w (b + 1) p = R.fm p := fun p => by rw [hR]; rfl
  have e2 : ∀ p, w (b + 2) p = R.sj p := fun p => by rw [hR]; rfl
  have e3 : ∀ p c, w (b + 3) (3 * p + c) = R.tm p c := fun p c => by rw [hR]; rfl
  have main : ∀ p, p ≤ R.ln → lp (fun z : (Int × Int × Int) => f_Pl_make_28B w b (known : Int) (taken : Int) (turn : Int) z.1 z.2.1 z.2.2) (-1, 0, 0) = lp (fun z : (Int × Int × Int) => f_Pl_make_28B w b (known : Int) (taken : Int) (turn : Int) z.1 z.2.1 z.2.2) ((selP (SA w) R known taken p).1, (((selP (SA w) R known taken p).2 : Nat) : Int), (p : Int)) := by
    intro p
    induction p with
    | zero => intro _; rfl
    | succ p ih =>
      intro hp
      rw [ih (by omega)]
      refine lp_step (F := fun z : (Int × Int × Int) => f_Pl_make_28B w b (known : Int) (taken : Int) (turn : Int) z.1 z.2.1 z.2.2) ?_
      obtain ⟨q1, hq1⟩ : ∃ q1, q1 = (selP (SA w) R known taken p).1 := ⟨_, rfl⟩
      obtain ⟨q2, hq2⟩ : ∃ q2, q2 = (selP (SA w) R known taken p).2 := ⟨_, rfl⟩
      have hq28 : q2 < 8 := by rw [hq2]; exact selP_8 hD
      show f_Pl_make_28B w b (known : Int) (taken : Int) (turn : Int) (selP (SA w) R known taken p).1 (((selP (SA w) R known taken p).2 : Nat) : Int) (p : Int) = some (Sum.inl ((selP (SA w) R known taken (p + 1)).1, (((selP (SA w) R known taken (p + 1)).2 : Nat) : Int), ((p + 1 : Nat) : Int)))
      rw [← hq1, ← hq2]
      have hp5 : p < 5 := by omega
      have hsel : selP (SA w) R known taken (p + 1) = if R.fm p = 0 ∧ taken.testBit p = false ∧ (q1 = -1 ∨ pc q2 < pc (kcs (R.tm p) known ((SA w).co (R.sj p)))) then ((p : Int), kcs (R.tm p) known ((SA w).co (R.sj p))) else (q1, q2) := by
        rw [hq1, hq2]
        rfl
      have e118 : ∀ (x y : Int), f_Pl_make_118 w b (known : Int) (taken : Int) (turn : Int) x y (p : Int) = some (Sum.inl (x, y, ((p + 1 : Nat) : Int))) := fun x y => by
        unfold f_Pl_make_118
        rw [bl_s, wr_of (x := (p : Int) + 1) ⟨by omega, by omega⟩]
        rfl
      have hbit := bit_one (v := p) (m := taken) (by omega) (by omega)
      obtain ⟨co, hco3, hco, hcof⟩ : ∃ co : Nat, co ≤ 3 ∧ f_Sc_columnsOf w (R.sj p) = some (co : Int) ∧ (R.fm p = 0 → co = (SA w).co (R.sj p)) := by
        rcases columns_any hS (R.sj p) with ⟨r, z1, z2, z3, z4⟩ | ⟨z1, z2⟩
        · have := (hS r z2).1
          refine ⟨(w 3 r).toNat, by omega, by rw [z4]; congr 1; omega, fun _ => by rw [z1, SA_co z2]⟩
        · refine ⟨0, by omega, z2, fun f0 => ?_⟩
          obtain ⟨hc1, -⟩ := hat p (by omega) (by omega)
          obtain ⟨r, hr, hr10, hr3, -⟩ := SA_co_in hc1
          have := z1 r hr hr10
          omega
      have hkc := knownA_n (w := w) (b := b) (p := p) (co := co) (known := known) (f := R.tm p) (by omega) hco3 hkn (fun c hc => ⟨e3 p c, htm p c (by omega) hc⟩)
      have hk8 := kcs_8 (f := R.tm p) (known := known) hco3
      have e84 : ∀ s0 : Int, f_Pl_make_84 w b (known : Int) (taken : Int) (turn : Int) q1 (q2 : Int) (p : Int) ((kcs (R.tm p) known co : Nat) : Int) s0 = if R.fm p = 0 ∧ taken.testBit p = false ∧ ¬ s0 = 0 then some (Sum.inl ((p : Int), ((kcs (R.tm p) known co : Nat) : Int), ((p + 1 : Nat) : Int))) else some (Sum.inl (q1, (q2 : Int), ((p + 1 : Nat) : Int))) := fun s0 => by
        unfold f_Pl_make_84
        rw [formOf_n hp5, bnd_s, e1, hbit, e118, e118]
        by_cases f0 : R.fm p = 0
        · rw [if_pos f0]
          by_cases t : taken.testBit p = true
          · rw [if_pos t, if_neg z10, if_neg (fun z => by rw [t] at z; exact absurd z.2.1 (by decide))]
          · have t0 : taken.testBit p = false := by simpa using t
            rw [if_neg t, if_pos rfl]
            by_cases s : s0 = 0
            · rw [if_pos s, if_neg (fun z => z.2.2 s)]
            · rw [if_neg s, if_pos ⟨f0, t0, s⟩]
        · rw [if_neg f0, if_neg (fun z => f0 z.1)]
      have e79 : f_Pl_make_79 w b (known : Int) (taken : Int) (turn : Int) q1 (q2 : Int) (p : Int) ((kcs (R.tm p) known co : Nat) : Int) = if R.fm p = 0 ∧ taken.testBit p = false ∧ ¬ (1 : Int) = 0 then some (Sum.inl ((p : Int), ((kcs (R.tm p) known co : Nat) : Int), ((p + 1 : Nat) : Int))) else some (Sum.inl (q1, (q2 : Int), ((p + 1 : Nat) : Int))) := e84 1
      have hsel2 : selP (SA w) R known taken (p + 1) = if R.fm p = 0 ∧ taken.testBit p = false ∧ (q1 = -1 ∨ pc q2 < pc (kcs (R.tm p) known co)) then ((p : Int), kcs (R.tm p) known co) else (q1, q2) := by
        rw [hsel]
        by_cases f0 : R.fm p = 0
        · rw [← hcof f0]
        · rw [if_neg (fun z => f0 z.1), if_neg (fun z => f0 z.1)]
      have e840 := e84 0
      rw [if_neg (fun z => z.2.2 rfl)] at e840
      unfold f_Pl_make_28B
      rw [hb0, if_neg (by omega), subjectOf_n hp5, bnd_s, e2, hco, bnd_s, hkc, bnd_s, bitCount_n _ (show kcs (R.tm p) known co < 64 by omega), bnd_s, bitCount_n q2 (by omega), bnd_s, e79, e840, hsel2]
      by_cases hA : R.fm p = 0 ∧ taken.testBit p = false
      · rw [if_pos (show R.fm p = 0 ∧ taken.testBit p = false ∧ ¬ (1 : Int) = 0 from ⟨hA.1, hA.2, z10⟩)]
        by_cases h1 : q1 = -1
        · rw [if_pos h1, if_pos ⟨hA.1, hA.2, Or.inl h1⟩]
        · rw [if_neg h1]
          by_cases h2 : pc q2 < pc (kcs (R.tm p) known co)
          · rw [if_neg (by omega), if_pos ⟨hA.1, hA.2, Or.inr h2⟩]
          · rw [if_pos (by omega), if_neg (fun z => z.2.2.elim h1 h2)]
      · rw [if_neg (show ¬ (R.fm p = 0 ∧ taken.testBit p = false ∧ ¬ (1 : Int) = 0) from fun z => hA ⟨z.1, z.2.1⟩), if_neg (show ¬ (R.fm p = 0 ∧ taken.testBit p = false ∧ (q1 = -1 ∨ pc q2 < pc (kcs (R.tm p) known co))) from fun z => hA ⟨z.1, z.2.1⟩), ite_self, ite_self]
  have := main R.ln (Nat.le_refl _)
  unfold f_Pl_make_28
  exact this
def FrP (w w' : World) : Prop := ∀ c, c ≠ 155 → c ≠ 156 → c ≠ 157 → w' c = w c
theorem FrP.refl {w : World} : FrP w w := fun _ _ _ _ => rfl
theorem FrP.trans {w w' w'' : World} (h : FrP w w') (h' : FrP w' w'') : FrP w w'' := fun c a b d => (h' c a b d).trans (h c a b d)
theorem FrP.u {w : World} {c k : Nat} {v : Int} (h : c = 155 ∨ c = 156 ∨ c = 157) : FrP w (up w c k v) := fun c' a b d => by
  funext k'
  unfold up
  rw [if_neg (fun z => by omega)]
theorem FrP.R {w w' : World} (h : FrP w w') {b : Nat} (hkb : kdA b = 1) : RB w' b = RB w b := by
  have := kd1 hkb
  exact RB_congr (h b (by omega) (by omega) (by omega)) (h _ (by omega) (by omega) (by omega)) (h _ (by omega) (by omega) (by omega)) (h _ (by omega) (by omega) (by omega))
theorem FrP.SA {w w' : World} (h : FrP w w') : SA w' = SA w := SA_c5 (fun c _ _ => h c (by omega) (by omega) (by omega))
/-- the plan is made -/
def PlA (w : World) (D : SH) (R : RU) (t : Nat) : Prop := w 155 0 = (t : Int) ∧ ∀ i, i < t → w 156 i = (plQ D R i).1 ∧ w 157 i = (((plQ D R i).2 : Nat) : Int)
theorem planA_n {w : World} {b : Nat} (hkb : kdA b = 1) (hS : WfS w) (hb0 : w b 0 = ((RB w b).ln : Int)) (hW : WfL (SA w) (RB w b)) (hFew : Few (RB w b)) : ∃ w', f_Pl_make w b = some w' ∧ FrP w w' ∧ PlA w' (SA w) (RB w b) (atoms (RB w b)) := by
  have hD := hS.D
  have hb1 := kd1 hkb
  obtain ⟨h5, hfm, hat, hcmp, htm⟩ := id hW
  have ha3 : atoms (RB w b) ≤ 3 := hFew
  have loop : ∀ (j t : Nat) (u : World), t + j = 3 → FrP w u → PlA u (SA w) (RB w b) (if t ≤ atoms (RB w b) then t else atoms (RB w b)) → ∃ w', f_Pl_make_13 u b (((plS (SA w) (RB w b) t).1 : Nat) : Int) (((plS (SA w) (RB w b) t).2 : Nat) : Int) (t : Int) = some w' ∧ FrP w w' ∧ PlA w' (SA w) (RB w b) (atoms (RB w b)) := by
    intro j
    induction j with
    | zero =>
      intro t u ht hF hP
      have e : t = 3 := by omega
      subst e
      refine ⟨u, ?_, hF, ?_⟩
      · unfold f_Pl_make_13
        refine lp_out ?_
        show f_Pl_make_13B u b _ _ ((3 : Nat) : Int) = _
        unfold f_Pl_make_13B
        rw [if_pos (by decide)]
      · by_cases q : 3 ≤ atoms (RB w b)
        · rw [if_pos q] at hP
          rw [show atoms (RB w b) = 3 by omega]
          exact hP
        · rw [if_neg q] at hP
          exact hP
    | succ j ih =>
      intro t u ht hF hP
      have ht3 : t < 3 := by omega
      obtain ⟨hk, htk⟩ := plS_lt hD (R := RB w b) h5 htm t
      have hRu : RB u b = RB w b := hF.R hkb
      have hSu : SA u = SA w := hF.SA
      have hub : u b 0 = ((RB w b).ln : Int) := by rw [hF b (by omega) (by omega) (by omega)]; exact hb0
      have hsel := selA_n (w := u) (b := b) (turn := t) (WfS_congr (fun c x y k => by rw [hF c (by omega) (by omega) (by omega)]) hS) (by rw [hRu]; exact hub) (by rw [hRu, hSu]; exact hW) hk htk ht3
      rw [hRu, hSu] at hsel
      have e177 : ∀ (v : World) (x y : Int), f_Pl_make_177 v b x y (t : Int) = some (Sum.inl (v, x, y, ((t + 1 : Nat) : Int))) := fun v x y => by
        unfold f_Pl_make_177
        rw [bl_s, wr_of (x := (t : Int) + 1) ⟨by omega, by omega⟩]
        rfl
      have hturn : ∀ (o : (World × Int × Int × Int) ⊕ World), f_Pl_make_28 u b (((plS (SA w) (RB w b) t).1 : Nat) : Int) (((plS (SA w) (RB w b) t).2 : Nat) : Int) (t : Int) (-1) 0 0 = some o → f_Pl_make_13B u b (((plS (SA w) (RB w b) t).1 : Nat) : Int) (((plS (SA w) (RB w b) t).2 : Nat) : Int) (t : Int) = some o := fun o ho => by
        unfold f_Pl_make_13B
        rw [if_neg (by omega), ho]
      have go : ∀ (u1 : World), f_Pl_make_13B u b (((plS (SA w) (RB w b) t).1 : Nat) : Int) (((plS (SA w) (RB w b) t).2 : Nat) : Int) (t : Int) = some (Sum.inl (u1, (((plS (SA w) (RB w b) (t + 1)).1 : Nat) : Int), (((plS (SA w) (RB w b) (t + 1)).2 : Nat) : Int), ((t + 1 : Nat) : Int))) → FrP w u1 → PlA u1 (SA w) (RB w b) (if t + 1 ≤ atoms (RB w b) then t + 1 else atoms (RB w b)) → ∃ w', f_Pl_make_13 u b (((plS (SA w) (RB w b) t).1 : Nat) : Int) (((plS (SA w) (RB w b) t).2 : Nat) : Int) (t : Int) = some w' ∧ FrP w w' ∧ PlA w' (SA w) (RB w b) (atoms (RB w b)) := fun u1 g1 g2 g3 => by
        obtain ⟨w', p1, p2⟩ := ih (t + 1) u1 (by omega) g2 g3
        refine ⟨w', ?_, p2⟩
        rw [← p1]
        unfold f_Pl_make_13
        exact lp_step (F := fun z : (World × Int × Int × Int) => f_Pl_make_13B z.1 b z.2.1 z.2.2.1 z.2.2.2) (s := (u, (((plS (SA w) (RB w b) t).1 : Nat) : Int), (((plS (SA w) (RB w b) t).2 : Nat) : Int), (t : Int))) g1
      by_cases q : t < atoms (RB w b)
      · obtain ⟨p, hp, q1, q2, q3, q4⟩ := plan_q hD q
        have hq1 : (selP (SA w) (RB w b) (plS (SA w) (RB w b) t).1 (plS (SA w) (RB w b) t).2 (RB w b).ln).1 = (p : Int) := q1
        have hq2 : (selP (SA w) (RB w b) (plS (SA w) (RB w b) t).1 (plS (SA w) (RB w b) t).2 (RB w b).ln).2 = (plQ (SA w) (RB w b) t).2 := rfl
        rw [hq1, hq2] at hsel
        rw [if_pos (by omega)] at hP
        obtain ⟨u1, hu1⟩ : ∃ u1, u1 = up (up (up u 156 t (p : Int)) 157 t (((plQ (SA w) (RB w b) t).2 : Nat) : Int)) 155 0 ((t : Int) + 1) := ⟨_, rfl⟩
        have hF1 : FrP u u1 := by rw [hu1]; exact (FrP.u (by omega)).trans ((FrP.u (by omega)).trans (FrP.u (by omega)))
        have hvf := vfrA_n (w := u1) (b := b) (p := p) (f := (RB w b).tm p) (by omega) (fun c hc => ⟨by rw [hF1 (b + 3) (by omega) (by omega) (by omega), hF (b + 3) (by omega) (by omega) (by omega)]; rfl, htm p c hp hc⟩)
        have hvl : vfr ((RB w b).tm p) 3 < 256 := by
          have a0 := vb_lt (htm p 0 hp (by omega))
          have a1 := vb_lt (htm p 1 hp (by omega))
          have a2 := vb_lt (htm p 2 hp (by omega))
          show ((0 ||| vb ((RB w b).tm p 0)) ||| vb ((RB w b).tm p 1)) ||| vb ((RB w b).tm p 2) < 256
          exact Nat.or_lt_two_pow (n := 8) (Nat.or_lt_two_pow (n := 8) (Nat.or_lt_two_pow (n := 8) (by omega) a0) a1) a2
        have h2p : 2 ^ p < 32 := Nat.lt_of_le_of_lt (Nat.pow_le_pow_right (by omega) (show p ≤ 4 by omega)) (by decide)
        have hout : f_Pl_make_28B u b (((plS (SA w) (RB w b) t).1 : Nat) : Int) (((plS (SA w) (RB w b) t).2 : Nat) : Int) (t : Int) (p : Int) (((plQ (SA w) (RB w b) t).2 : Nat) : Int) ((RB w b).ln : Int) = some (Sum.inr (Sum.inl (u1, (((plS (SA w) (RB w b) (t + 1)).1 : Nat) : Int), (((plS (SA w) (RB w b) (t + 1)).2 : Nat) : Int), ((t + 1 : Nat) : Int)))) := by
          have e155 : up (up u 156 t (p : Int)) 157 t (((plQ (SA w) (RB w b) t).2 : Nat) : Int) 155 0 = (t : Int) := by
            have : up (up u 156 t (p : Int)) 157 t (((plQ (SA w) (RB w b) t).2 : Nat) : Int) 155 0 = u 155 0 := by simp [up]
            rw [this]
            exact hP.1
          have hbk : ishl 1 (p : Int) = ((2 ^ p : Nat) : Int) := bit_k (by omega)
          unfold f_Pl_make_28B
          rw [hub, if_pos (Int.le_refl _), if_neg (by omega), gd_t ⟨by omega, by omega⟩, bl_s, gd_t ⟨by omega, by omega⟩, bl_s, Int.toNat_natCast, e155, wr_of (x := (t : Int) + 1) ⟨by omega, by omega⟩, bl_s, ← hu1, hbk, ior_n (by omega) (by omega), bl_s, hvf, bnd_s, ior_n (by omega) (by omega), bl_s, e177, bnd_s, q4]
        refine go u1 (hturn _ (by rw [hsel]; exact lp_out hout)) (hF.trans hF1) ?_
        rw [if_pos (by omega)]
        refine ⟨by rw [hu1]; simp [up], fun i hi => ?_⟩
        by_cases e : i = t
        · subst e
          refine ⟨?_, ?_⟩
          · rw [hu1, q1]; simp [up]
          · rw [hu1]; simp [up]
        · have h1 := hP.2 i (by omega)
          refine ⟨?_, ?_⟩
          · rw [← h1.1, hu1]; simp [up, e]
          · rw [← h1.2, hu1]; simp [up, e]
      · obtain ⟨n1, n2⟩ := plan_no hD (R := RB w b) (t - atoms (RB w b))
        obtain ⟨n3, n4⟩ := plan_no hD (R := RB w b) (t + 1 - atoms (RB w b))
        rw [show atoms (RB w b) + (t - atoms (RB w b)) = t by omega] at n1 n2
        rw [show atoms (RB w b) + (t + 1 - atoms (RB w b)) = t + 1 by omega] at n4
        have hq1 : (selP (SA w) (RB w b) (plS (SA w) (RB w b) t).1 (plS (SA w) (RB w b) t).2 (RB w b).ln).1 = -1 := n1
        rw [hq1] at hsel
        have hout : f_Pl_make_28B u b (((plS (SA w) (RB w b) t).1 : Nat) : Int) (((plS (SA w) (RB w b) t).2 : Nat) : Int) (t : Int) (-1) (((selP (SA w) (RB w b) (plS (SA w) (RB w b) t).1 (plS (SA w) (RB w b) t).2 (RB w b).ln).2 : Nat) : Int) ((RB w b).ln : Int) = some (Sum.inr (Sum.inl (u, (((plS (SA w) (RB w b) (t + 1)).1 : Nat) : Int), (((plS (SA w) (RB w b) (t + 1)).2 : Nat) : Int), ((t + 1 : Nat) : Int)))) := by
          unfold f_Pl_make_28B
          rw [hub, if_pos (Int.le_refl _), if_pos rfl, e177, bnd_s, n4, n2]
        refine go u (hturn _ (by rw [hsel]; exact lp_out hout)) hF ?_
        rw [if_neg (by omega)]
        by_cases e : t ≤ atoms (RB w b)
        · rw [if_pos e] at hP
          rw [show atoms (RB w b) = t by omega]
          exact hP
        · rw [if_neg e] at hP
          exact hP
  obtain ⟨w', p1, p2, p3⟩ := loop 3 0 (up w 155 0 0) (by omega) (FrP.u (by omega)) (by
    rw [if_pos (Nat.zero_le _)]
    exact ⟨by simp [up], fun i hi => absurd hi (Nat.not_lt_zero i)⟩)
  refine ⟨w', ?_, p2, p3⟩
  unfold f_Pl_make
  rw [bl_s]
  exact p1
