/-! BOTH: order -/
theorem kcs_congr {f g : Nat → Int} {known : Nat} : ∀ n, (∀ c, c < n → g c = f c) → kcs g known n = kcs f known n := by
  intro n
  induction n with
  | zero => intro _; rfl
  | succ n ih =>
    intro h
    unfold kcs
    rw [ih (fun c hc => h c (by omega)), h n (by omega)]
theorem vfr_congr {f g : Nat → Int} : ∀ n, (∀ c, c < n → g c = f c) → vfr g n = vfr f n := by
  intro n
  induction n with
  | zero => intro _; rfl
  | succ n ih =>
    intro h
    unfold vfr
    rw [ih (fun c hc => h c (by omega)), h n (by omega)]
theorem selP_same {D : SH} (hD : WfD D) {R R' : RU} {known taken : Nat} (e : EqT R R') : ∀ n, n ≤ R.ln → selP D R' known taken n = selP D R known taken n := by
  intro n
  induction n with
  | zero => intro _; rfl
  | succ n ih =>
    intro h
    obtain ⟨a, b, d⟩ := e.2 n (by omega)
    have hk : kcs (R'.tm n) known (D.co (R'.sj n)) = kcs (R.tm n) known (D.co (R.sj n)) := by
      rw [b]
      exact kcs_congr _ (fun c hc => d c (by have := (hD (R.sj n)).1; omega))
    unfold selP
    rw [ih (by omega), a, hk]
theorem plS_same {D : SH} (hD : WfD D) {R R' : RU} (e : EqT R R') : ∀ t, plS D R' t = plS D R t := by
  intro t
  induction t with
  | zero => rfl
  | succ t ih =>
    unfold plS
    rw [ih, e.1, selP_same hD e R.ln (Nat.le_refl _)]
    rcases selP_spec hD (R := R) (known := (plS D R t).1) (taken := (plS D R t).2) R.ln with ⟨h1, -⟩ | ⟨p, hp, h1, -⟩
    · rw [if_pos h1, if_pos h1]
    · rw [if_neg (by omega), if_neg (by omega), h1, Int.toNat_natCast, vfr_congr 3 (fun c hc => (e.2 p hp).2.2 c hc)]
theorem plQ_same {D : SH} (hD : WfD D) {R R' : RU} (e : EqT R R') (t : Nat) : plQ D R' t = plQ D R t := by
  unfold plQ
  rw [plS_same hD e, e.1, selP_same hD e R.ln (Nat.le_refl _)]
theorem atoms_same {R R' : RU} (e : EqT R R') : atoms R' = atoms R := by
  unfold atoms
  rw [e.1]
  exact cnt_congr (fun i hi => by show decide (R'.fm i = 0) = decide (R.fm i = 0); rw [(e.2 i hi).1])
theorem FrP.Q {w w' : World} (h : FrP w w') (hV : VV (w 104)) : QAr w w' := ⟨fun c hc => h c (by omega) (by omega) (by omega), by rw [h 104 (by omega) (by omega) (by omega)]; exact hV⟩
/-- plans made in both, alike -/
theorem plan_both {nF m d now top kk : Nat} {L g : Nat → Nat} {w u : World} (hI : Inv nF m d now top L g w u) (hk : kk < m) : ∃ (w' u' : World) (a : Nat) (q : Nat → Int × Nat), f_Pl_make w (22 + 4 * kk) = some w' ∧ f_Re_makePlan u (kk : Int) = some u' ∧ FrP w w' ∧ FrO u u' ∧ a ≤ 3 ∧ (w' 155 0 = (a : Int) ∧ ∀ i, i < a → w' 156 i = (q i).1 ∧ w' 157 i = (((q i).2 : Nat) : Int)) ∧ (u' 1 35 = (a : Int) ∧ ∀ i, i < a → u' 29 i = (q i).1 ∧ u' 30 i = (((q i).2 : Nat) : Int)) ∧ ∀ i, i < a → ∃ p : Nat, p < (RB w (22 + 4 * kk)).ln ∧ (q i).1 = (p : Int) ∧ (q i).2 < 8 := by
  obtain ⟨i1, i2, i3, i4, i5, i6, i7, i8, i9, i10, i11⟩ := id hI
  have hm12 : m ≤ 12 := i3.1.2.2.1
  have hk12 : kk < 12 := by omega
  obtain ⟨rA1, rA2, -⟩ := i3.1.2.2.2.2 kk hk
  obtain ⟨⟨rB1, rT, rB3, rB4⟩, -⟩ := i3.2.1.2.2 kk hk
  obtain ⟨k1, k2, k3, k4, k5, k6⟩ := i3.2.2 kk hk
  have hkd : kdA (22 + 4 * kk) = 1 := kd_rule kk hk12
  obtain ⟨w', p1, p2, p3⟩ := planA_n hkd i1.1 rA1 rA2.L k6
  obtain ⟨u', q1, q2, q3⟩ := planB_n (w := u) (ru := kk) ⟨rB1, rT, rB3, rB4.L⟩ (k1.T.few k6)
  rw [atoms_same k1.T] at q3
  have hD := i1.1.D
  have hpq : ∀ t, plQ (SA u) (RBB u kk) t = plQ (SA w) (RB w (22 + 4 * kk)) t := fun t => by
    rw [i1.SA]
    exact plQ_same hD k1.T t
  refine ⟨w', u', atoms (RB w (22 + 4 * kk)), plQ (SA w) (RB w (22 + 4 * kk)), p1, q1, p2, q2, k6, p3, ⟨q3.1, fun i hi => ?_⟩, fun i hi => ?_⟩
  · rw [← hpq i]
    exact q3.2 i hi
  · obtain ⟨p, hp, e1, -, e2, -⟩ := plan_q hD hi
    exact ⟨p, hp, e1, selP_8 hD⟩
theorem st_order : St_order II := by
  intro wA wB hII x1 x2 _ _
  obtain ⟨nF, m, d, now, top, L, g, hI⟩ := id hII
  have hI0 : Inv nF m d now top L g wA (up wB 1 0 0) := Inv_up10 hI
  obtain ⟨i1, i2, i3, i4, i5, i6, i7, i8, i9, i10, i11⟩ := id hI0
  have hm : m ≤ 12 := i3.1.2.2.1
  have nA : wA 14 4 = (m : Int) := i3.1.2.1
  have nB : wB 1 14 = (m : Int) := hI.2.2.1.2.1.1
  have ewm : wr ((m : Int) - 1) = (m : Int) - 1 := wr_of (x := (m : Int) - 1) ⟨by omega, by omega⟩
  by_cases q1 : (0 ≤ x1 ∧ x1 ≤ (m : Int) - 1) ∧ 0 ≤ x2
  · obtain ⟨j, rfl⟩ : ∃ j : Nat, x1 = (j : Int) := ⟨x1.toNat, by omega⟩
    obtain ⟨i, rfl⟩ : ∃ i : Nat, x2 = (i : Int) := ⟨x2.toNat, by omega⟩
    have hj : j < m := by omega
    have hkd : kdA (22 + 4 * j) = 1 := kd_rule j (by omega)
    obtain ⟨w', u', a, q, p1, p2, p3, p4, p5, ⟨p6, p7⟩, ⟨p8, p9⟩, p10⟩ := plan_both hI0 hj
    obtain ⟨y, hy⟩ : ∃ y : Int, y = if i < a then (q i).1 else -1 := ⟨_, rfl⟩
    refine ⟨(w', 0, y), (u', y), ?_, ?_, ?_, Or.inl rfl, fun _ => rfl, nF, m, d, now, top, L, g, Inv_q (p3.Q i10) (p4.Q i11) hI0⟩
    · unfold f_Dm_order f_Pr_hasRule f_Pl_placeAt
      rw [if_neg (by omega), nA, if_neg (by omega), bnd_s, if_neg z10, if_pos (by omega), rule_n (by omega) (i3.1.2.2.2.1 j (by omega)), bnd_s, gd_t hkd, p1, bnd_s, if_neg (by omega), p6]
      by_cases h : i < a
      · rw [if_neg (by omega), if_neg (by omega), gd_t ⟨by omega, by omega⟩, bnd_s, Int.toNat_natCast, (p7 i h).1, hy, if_pos h]
      · rw [if_pos (by omega), bnd_s, hy, if_neg h]
    · unfold f_Re_order
      rw [nB, ewm, inB_n, bnd_s, if_pos q1.1, if_neg z10, if_neg (by omega)]
      unfold f_Re_order_23 f_Re_order_34
      rw [if_neg z10, refused_n, bnd_s]
      show (if (if (0 : Int) = 0 then (0 : Int) else 1) = 0 then bnd (f_Re_makePlan (up wB 1 0 0) (j : Int)) _ else _) = _
      rw [if_pos (if_pos rfl), p2, bnd_s, p8]
      by_cases h : i < a
      · rw [if_neg (by omega), gd_t ⟨by omega, by omega⟩, Int.toNat_natCast, (p9 i h).1, hy, if_pos h]
      · rw [if_pos (by omega), hy, if_neg h]
    · unfold f_Re_thrown
      show some (u' 1 0) = _
      rw [p4 1 0 (by decide) (by decide) (by decide)]
      simp [up]
      rfl
  · refine no_v (e := 1) (x := 1) (fun e => e = 0 ∨ e = 1) hII (by decide) ?_ ?_ rfl (Or.inr rfl)
    · unfold f_Dm_order f_Pr_hasRule
      by_cases q : x1 < 0
      · rw [if_pos q, bnd_s, if_pos rfl]
      · rw [if_neg q, nA]
        by_cases h : (m : Int) ≤ x1
        · rw [if_pos h, bnd_s, if_pos rfl]
        · rw [if_neg h, bnd_s, if_neg z10, if_neg (by omega)]
    · have e34 : f_Re_order_34 wB x1 x2 1 = some (up wB 1 0 1, 0) := by
        unfold f_Re_order_34
        rw [refused_n, bnd_s]
        show (if (if (1 : Int) = 0 then (0 : Int) else 1) = 0 then _ else some (up wB 1 0 1, 0)) = _
        rw [if_neg z10]
        exact if_neg z10
      have e22 : f_Re_order_22 wB x1 x2 = some (up wB 1 0 1, 0) := by
        unfold f_Re_order_22 f_Re_order_23
        rw [if_pos rfl, e34]
      unfold f_Re_order
      rw [nB, ewm, inB_n, bnd_s]
      by_cases h : 0 ≤ x1 ∧ x1 ≤ (m : Int) - 1
      · rw [if_pos h, if_neg z10, if_pos (by omega), e22]
      · rw [if_neg h, if_pos rfl, e22]
/-! BOTH: indexes -/
def cbs (set : Nat) : Nat → Nat
  | 0 => 0
  | i + 1 => cbs set i + (if set.testBit i = true then 1 else 0)
def srv (set : Nat) : Nat → Int
  | 0 => 0
  | i + 1 => ior (srv set i) (if set.testBit i = true then svI i else 0)
theorem cbs_6 : ∀ set, set < 64 → cbs set 6 = pc set := by decide +kernel
theorem served_n : ∀ i : Nat, i < 6 → f_Re_served (i : Int) = some (svI i) := by decide +kernel
theorem cbs_le {set : Nat} : ∀ i, cbs set i ≤ i := by
  intro i
  induction i with
  | zero => exact Nat.le_refl _
  | succ i ih =>
    unfold cbs
    split <;> omega
theorem fewest_both {w u : World} {x : Int} : ∀ (j set fw : Nat), set + j = 64 → fw ≤ 6 → ∃ v : Int, f_Dm_fewestOrders_7 w x (fw : Int) (set : Int) = some v ∧ f_Re_indexes_112 u x (fw : Int) (set : Int) = some (u, v) := by
  intro j
  induction j with
  | zero =>
    intro set fw hs hf
    have e : set = 64 := by omega
    subst e
    refine ⟨(fw : Int), ?_, ?_⟩
    · unfold f_Dm_fewestOrders_7
      refine lp_out ?_
      show f_Dm_fewestOrders_7B w x (fw : Int) ((64 : Nat) : Int) = _
      have h64 : ishl 1 6 = 64 := by decide +kernel
      unfold f_Dm_fewestOrders_7B
      rw [h64, if_pos (by decide)]
    · unfold f_Re_indexes_112
      refine lp_out ?_
      show f_Re_indexes_112B u x (fw : Int) ((64 : Nat) : Int) = _
      unfold f_Re_indexes_112B
      rw [if_pos (by decide)]
  | succ j ih =>
    intro set fw hs hf
    have hset : set < 64 := by omega
    have hbit : ∀ i : Nat, i < 6 → iand (ishr (set : Int) (i : Int)) 1 = if set.testBit i = true then 1 else 0 := fun i hi => bit_one (by omega) (by omega)
    obtain ⟨fw', hfw'⟩ : ∃ fw', fw' = if iand x (ixor (srv set 6) (-1)) = 0 then (if pc set < fw then pc set else fw) else fw := ⟨_, rfl⟩
    have hpc : pc set ≤ 6 := by rw [← cbs_6 set hset]; exact cbs_le 6
    have hle : fw' ≤ 6 := by rw [hfw']; split; split <;> omega; exact hf
    obtain ⟨v, hv1, hv2⟩ := ih (set + 1) fw' (by omega) hle
    have stepA : f_Dm_fewestOrders_7B w x (fw : Int) (set : Int) = some (Sum.inl ((fw' : Int), ((set + 1 : Nat) : Int))) := by
      have h64 : ishl 1 6 = 64 := by decide +kernel
      have e76 : ∀ y : Int, f_Dm_fewestOrders_76 w x y (set : Int) = some (Sum.inl (y, ((set + 1 : Nat) : Int))) := fun y => by
        unfold f_Dm_fewestOrders_76
        rw [bl_s, wr_of (x := (set : Int) + 1) ⟨by omega, by omega⟩]
        rfl
      have h22 : f_Dm_fewestOrders_22 w x (fw : Int) (set : Int) 0 0 = some (Sum.inl ((fw' : Int), ((set + 1 : Nat) : Int))) := by
        unfold f_Dm_fewestOrders_22
        have h := lp_go (F := fun z : (Int × Int) => f_Dm_fewestOrders_22B w x (fw : Int) (set : Int) z.1 z.2) (fun i => (srv set i, (i : Int))) (Sum.inl ((fw' : Int), ((set + 1 : Nat) : Int))) 6 (fun i hi => ?_) ?_
        · exact h
        · show f_Dm_fewestOrders_22B w x (fw : Int) (set : Int) (srv set i) (i : Int) = some (Sum.inl (srv set (i + 1), ((i + 1 : Nat) : Int)))
          have e51 : ∀ y : Int, f_Dm_fewestOrders_51 w x (fw : Int) (set : Int) (i : Int) (srv set i) y = some (Sum.inl (ior (srv set i) y, ((i + 1 : Nat) : Int))) := fun y => by
            unfold f_Dm_fewestOrders_51
            rw [bl_s, bl_s, wr_of (x := (i : Int) + 1) ⟨by omega, by omega⟩]
            rfl
          have hsr : srv set (i + 1) = ior (srv set i) (if set.testBit i = true then svI i else 0) := rfl
          unfold f_Dm_fewestOrders_22B
          rw [if_neg (by omega), hbit i hi, e51, gd_t ⟨by omega, by omega⟩, Int.toNat_natCast, e51, hsr]
          by_cases t : set.testBit i = true
          · rw [if_pos t, if_neg z10, if_pos t]
          · rw [if_neg t, if_pos rfl, if_neg t]
        · show f_Dm_fewestOrders_22B w x (fw : Int) (set : Int) (srv set 6) ((6 : Nat) : Int) = _
          unfold f_Dm_fewestOrders_22B
          rw [if_pos (by decide), bitCount_n set hset, bnd_s, bl_s, e76, bnd_s, e76, bnd_s, hfw']
          by_cases c : iand x (ixor (srv set 6) (-1)) = 0
          · rw [if_pos c, if_pos c]
            unfold imin
            by_cases l : pc set < fw
            · rw [if_neg (by omega), if_pos l]
            · by_cases l2 : (fw : Int) ≤ ((pc set : Nat) : Int)
              · rw [if_pos l2, if_neg l]
              · omega
          · rw [if_neg c, if_neg c]
      unfold f_Dm_fewestOrders_7B
      rw [h64, if_neg (by omega), h22]
    have stepB : f_Re_indexes_112B u x (fw : Int) (set : Int) = some (Sum.inl ((fw' : Int), ((set + 1 : Nat) : Int))) := by
      have e214 : ∀ y : Int, f_Re_indexes_214 u x (set : Int) y = some (Sum.inl (y, ((set + 1 : Nat) : Int))) := fun y => by
        unfold f_Re_indexes_214
        rw [bl_s, wr_of (x := (set : Int) + 1) ⟨by omega, by omega⟩]
        rfl
      have e213 : f_Re_indexes_213 u x (fw : Int) (set : Int) = some (Sum.inl ((fw : Int), ((set + 1 : Nat) : Int))) := e214 _
      have h128 : f_Re_indexes_128 u x (fw : Int) (set : Int) 0 0 0 = some (Sum.inl ((fw' : Int), ((set + 1 : Nat) : Int))) := by
        unfold f_Re_indexes_128
        have h := lp_go (F := fun z : (Int × Int × Int) => f_Re_indexes_128B u x (fw : Int) (set : Int) z.1 z.2.1 z.2.2) (fun i => (srv set i, ((cbs set i : Nat) : Int), (i : Int))) (Sum.inl ((fw' : Int), ((set + 1 : Nat) : Int))) 6 (fun i hi => ?_) ?_
        · exact h
        · show f_Re_indexes_128B u x (fw : Int) (set : Int) (srv set i) ((cbs set i : Nat) : Int) (i : Int) = some (Sum.inl (srv set (i + 1), ((cbs set (i + 1) : Nat) : Int), ((i + 1 : Nat) : Int)))
          have hcb := cbs_le (set := set) i
          have e184 : ∀ (y : Int) (k : Nat), k ≤ 1 → f_Re_indexes_184 u x (fw : Int) (set : Int) y (i : Int) ((cbs set i : Nat) : Int) (k : Int) = some (Sum.inl (y, ((cbs set i + k : Nat) : Int), ((i + 1 : Nat) : Int))) := fun y k hk => by
            unfold f_Re_indexes_184
            rw [bl_s, bl_s, wr_of (x := (i : Int) + 1) ⟨by omega, by omega⟩, wr_of (x := ((cbs set i : Nat) : Int) + (k : Int)) ⟨by omega, by omega⟩]
            rfl
          have e1840 : ∀ y : Int, f_Re_indexes_184 u x (fw : Int) (set : Int) y (i : Int) ((cbs set i : Nat) : Int) 0 = _ := fun y => e184 y 0 (by omega)
          have e1841 : ∀ y : Int, f_Re_indexes_184 u x (fw : Int) (set : Int) y (i : Int) ((cbs set i : Nat) : Int) 1 = _ := fun y => e184 y 1 (by omega)
          have hsr : srv set (i + 1) = ior (srv set i) (if set.testBit i = true then svI i else 0) := rfl
          have hcs : cbs set (i + 1) = cbs set i + (if set.testBit i = true then 1 else 0) := rfl
          unfold f_Re_indexes_128B f_Re_indexes_151 f_Re_indexes_169
          rw [if_neg (by omega), hbit i hi, hsr, hcs]
          by_cases t : set.testBit i = true
          · rw [if_pos t, if_pos rfl, if_neg z10, served_n i hi, bnd_s, bl_s, if_neg z10, e1841, if_pos t, if_pos t]
          · rw [if_neg t, if_neg (by decide), if_pos rfl, bl_s, if_pos rfl, e1840, if_neg t, if_neg t]
        · show f_Re_indexes_128B u x (fw : Int) (set : Int) (srv set 6) ((cbs set 6 : Nat) : Int) ((6 : Nat) : Int) = _
          unfold f_Re_indexes_128B
          rw [if_pos (by decide), e213, bnd_s, e214, bnd_s, cbs_6 set hset, hfw']
          by_cases c : iand x (ixor (srv set 6) (-1)) = 0
          · rw [if_pos c, if_pos c]
            by_cases l : pc set < fw
            · rw [if_neg (by omega), if_pos l]
            · rw [if_pos (by omega), if_neg l]
          · rw [if_neg c, if_neg c]
      unfold f_Re_indexes_112B
      rw [if_neg (by omega), h128]
    refine ⟨v, ?_, ?_⟩
    · rw [← hv1]
      unfold f_Dm_fewestOrders_7
      exact lp_step (F := fun z : (Int × Int) => f_Dm_fewestOrders_7B w x z.1 z.2) (s := ((fw : Int), (set : Int))) stepA
    · rw [← hv2]
      unfold f_Re_indexes_112
      exact lp_step (F := fun z : (Int × Int) => f_Re_indexes_112B u x z.1 z.2) (s := ((fw : Int), (set : Int))) stepB
