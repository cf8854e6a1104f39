/-! THE LAW'S BEGINNING: two mills and a row of six ints are made; the claim out of the function of its body -/
def WdH (H1 : Heap) : Unit → Heap → List Loc → Prop := fun _ H locs => H = H1 ∧ locs = []
theorem J_newN {K : KT} {H1 : Heap} {pc a b : Nat} {L : List (Option Value)} {st : List Value} {cc : ByteArray} {own : String} {rm : Room} {D : va_G} {tys : List (ClassId × FieldType)} {cI : ClassId} (o : Ok K cc own rm) (gK : va_K D vwCl tys (kS K)) (hJ : tys[0]? = some (cI, .int)) (kc : KC K a b) (d : decode cc pc = .ok (.newarray .int, 2)) (harr : Cond.arrayClass .int ∈ GW) (hroom : a + 1 ≤ rm.cells ∧ b + 6 ≤ rm.slots)
    (k : ∀ H2 : Heap, va_at D vwCl (H1.size, nE cI (fun _ => 0)) H2 → H2.size = H1.size + 1 → (∀ q, q < H1.size → H2[q]? = H1[q]?) → Jj (kAdd K 1 6) (WdH H2) () (pc + 2) L (.ref H1.size :: st)) : Jj K (WdH H1) () pc L (.int (ii 6) :: st) := by
  obtain ⟨p, l, e, R, s, m, args, below, meth, cd, cells, slots, Q⟩ := K
  intro H locs ls hW hl hc
  obtain ⟨rfl, rfl⟩ := hW
  have hR : R = rm := o.2.2.2.2.2
  have e0 : cells = a := kc.1
  have e1 : slots = b := kc.2
  refine va_newaK (atype := .int) o.1 o.2.1 (o.2.2.2.1 _ harr) (g := F0 m pc ls (.int (ii 6) :: st)) rfl d rfl (by decide) (N := 6) rfl (by decide) (by rw [hR, e0]; exact hroom.1) (by rw [hR, e1]; exact hroom.2) rfl (fun H2 cA f1 z1 o1 hA hf => ?_)
  have hcA : cA = cI := by
    have h3 : s.vm.findClass ("[" ++ FieldType.int.toString) = some cI := (gK.2 0 _ hJ).2
    exact Option.some.inj (hf.symm.trans h3)
  subst hcA
  exact k H2 f1 z1 o1 H2 [] ls ⟨rfl, rfl⟩ hl hc
theorem AQ_new {X : QX} {n : Nat} (hA : ∀ c : Nat, c ≠ 0 → c ≤ TA.nn → n ≤ X.A.ad c) (hB : ∀ c : Nat, c ≠ 0 → c ≤ TA.nn → n ≤ X.B.ad c) (hO : n ≤ X.oa) : ∀ q, AQ X n q → n ≤ q := by
  rintro q (⟨c, c0, c1, rfl⟩ | ⟨c, c0, c1, rfl⟩ | rfl | h)
  · exact hA c c0 c1
  · exact hB c c0 c1
  · exact hO
  · exact h
def LawOk : Prop := ∀ (sn : Nat) (sx : Nat → Int), sn ≤ 260 → (∀ k, R32 (sx k)) → ∃ z', f_L_law (wA0, wA0, fun _ => 0) sn sx = some (z', 1)
set_option maxHeartbeats 4000000 in
set_option maxRecDepth 100000 in
theorem law_run (hS : LawOk) {p : Program} {e : Env} {s : State} {m : MethodId} {below : List Frame} {meth : Method} {c : Code} (l : Launch) (hflags : l.flags = flags0) {b L : Nat} {xs : Nat → Int32} (hL : L ≤ 260) (C0 : lw_At p s m meth c b L xs) : W p l e room_1 s m #[Value.ref b] below meth c s.heap [] 0 0 (lw_Z below #[Value.ref b] s) (entryFrame m ([Value.ref b] : List Value).toArray 9) := by
  obtain ⟨hx, hb, hr, hml, hown, htt, hX, hbl, hlocks, hgv⟩ := C0
  have hts : ∀ w ∈ GW, w.before #[Value.ref b] s = true := fun w hw => htt w (List.mem_filter.mp hw).1
  have hst : l.stackTraces = false := by
    unfold Launch.stackTraces
    rw [hflags]
    decide
  obtain ⟨D, cI, cZ, c0, c1, hK⟩ := st_K hts htt
  have hN := st_words htt
  have hXS := st_XS htt hgv
  have hXN := st_XN hgv
  have hXH := st_XH htt hgv
  generalize hS0 : ((D, cI, cZ, c0, c1, fun _ => 0) : EE) = S
  have hSD : EE.D S = D := by rw [← hS0]
  have hSI : EE.cI S = cI := by rw [← hS0]
  have hKS : va_K (EE.D S) vwCl (tysE TA S) s := by subst hS0; exact hK
  rw [lg_entry_eq]
  obtain ⟨e1, e2⟩ := ent_has (vs := [Value.ref b]) (n := 9) (cd := c) (Nat.le_of_ble_eq_true rfl) hml (fun v hv => by rcases List.mem_cons.mp hv with rfl | h; rfl; cases h)
  have main : Jj (p, l, e, room_1, s, m, #[Value.ref b], below, meth, c, 0, 0, lw_Z below #[Value.ref b] s) (WdT (tr TA 0) (sad S (fun _ => 0)) s.heap) w00 0 (entL [Value.ref b] 9) [] := by
    generalize hK0 : ((p, l, e, room_1, s, m, #[Value.ref b], below, meth, c, 0, 0, lw_Z below #[Value.ref b] s) : KT) = K
    have o : Ok K cL_law "DatalogmillLaw" room_1 := by subst hK0; exact ⟨hx, hb, hown, hts, hlocks, rfl⟩
    have hkS : kS K = s := by subst hK0; rfl
    have hkL : kL K = l := by subst hK0; rfl
    have kc : KC K 0 0 := by subst hK0; exact ⟨rfl, rfl⟩
    have hG : ∀ (K' : KT), KSim K K' → kS K' = s := by
      rintro K' ⟨x, y, rfl⟩
      exact hkS
    have g0 : Gd (tr TA 0) (sad S (fun _ => 0)) K := ⟨by rw [hkS]; exact hKS, Inj_0, tr_Tn TnA 0, by rw [hkS]; exact hN⟩
    -- the first mill
    refine J_newL (κ := 11) (n := 0) o TnA g0 kc dL_law_0 mw131 mw132 mw112 rfl inWX10 tyX10_ok kA_1 ⟨by decide, by decide⟩ dfX10 Zn00 Rn00 (a' := 1) (b' := 13) rfl rfl ⟨Nat.le_of_ble_eq_true rfl, Nat.le_of_ble_eq_true rfl⟩ ?_
    intro K1 ad1 q1 sim1 o1 kc1 ag1 hq1 g1
    refine J_dup o1 dL_law_3 rfl ?_
    refine J_initL (n := 1) (n' := 157) o1 TnA g1 kc1 dL_law_4 lkL_194 ml_Dm_init mw134 rfl ⟨Nat.le_of_ble_eq_true rfl, Nat.le_of_ble_eq_true rfl⟩ (b1 := q1) (vs' := []) (c_Dm_init g1.2.1 Zn00 Rn00) (by rw [hq1]) rfl (by omega) rfl (c1s_a c1s_0 (Nat.le_of_ble_eq_true rfl)) (a' := 157) (b' := 3900) rfl rfl ⟨Nat.le_of_ble_eq_true rfl, Nat.le_of_ble_eq_true rfl⟩ ?_
    intro K2 adA sim2 o2 kc2 ag2 g2
    refine J_astO_n o2 dL_law_7 (Nat.le_of_ble_eq_true rfl) ?_
    have simA := sim1.trans sim2
    have agA : Ag 0 157 s.heap.size (fun _ => 0) adA := Ag.trans ag1 ag2 (by omega) (Nat.le_refl _)
    have hadA : ∀ c : Nat, c ≠ 0 → c ≤ TA.nn → s.heap.size ≤ adA c := fun c h0 h1 => agA.2 c (by omega) h1
    have hqA : adA 1 = q1 := (ag2.1 1 (by omega)).trans hq1
    have gA : Inj TA (sad S adA) := Inj_full rfl g2.2.1
    clear g1 ag1 ag2 sim1 sim2 o1 kc1 g0 kc
    suffices hB : ∀ H : Heap, RW wA0 → va_P (EE.D S) vwCl (wsl TA (sad S adA) wA0) H → s.heap.size ≤ H.size → (∀ q, q < s.heap.size → H[q]? = s.heap[q]?) → Jj K2 (WdT (tr TA 0) (sad S (fun _ => 0)) H) w00 8 ((entL [Value.ref b] 9).set 1 (some (.ref q1))) [] by
      obtain ⟨x, y, rfl⟩ := simA
      subst hK0
      intro H locs ls hW hl hc
      obtain ⟨hRW, -, hP, hz, hk, hlo⟩ := hW
      have hP' : va_P (EE.D S) vwCl (wsl (tr TA 157) (sad S adA) wA0) H := hP
      rw [wsl_full (show TA.nn = 157 from rfl)] at hP'
      have hAz : ∀ q, AA (tr TA 157) (sad S adA) s.heap.size q → s.heap.size ≤ q := by
        rintro q (⟨c, c0, c1, rfl⟩ | h1)
        · exact hadA c c0 c1
        · exact h1
      refine va_forget (fun q hq => hAz _ (hlo q hq)) ?_
      exact hB H hRW hP' hz (fun q hq => hk q hq (fun h => absurd hq (Nat.not_lt.mpr (hAz q h)))) H [] ls ⟨RW00, tr_Fx, fun k q h => (by cases h), va_S.rf⟩ hl hc
    intro H hRA hPA hzA hkA
    have g3 : Gd (tr TA 0) (sad S (fun _ => 0)) K2 := ⟨by rw [hG _ simA]; exact hKS, Inj_0, tr_Tn TnA 0, by rw [hG _ simA]; exact hN⟩
    -- the second
    refine J_newL (κ := 11) (n := 0) o2 TnA g3 kc2 dL_law_8 mw131 mw132 mw112 rfl inWX10 tyX10_ok kA_1 ⟨by decide, by decide⟩ dfX10 Zn00 Rn00 (a' := 158) (b' := 3913) rfl rfl ⟨Nat.le_of_ble_eq_true rfl, Nat.le_of_ble_eq_true rfl⟩ ?_
    intro K3 ad3 q3 sim3 o3 kc3 ag3 hq3 g3
    refine J_dup o3 dL_law_11 rfl ?_
    refine J_initL (n := 1) (n' := 157) o3 TnA g3 kc3 dL_law_12 lkL_194 ml_Dm_init mw134 rfl ⟨Nat.le_of_ble_eq_true rfl, Nat.le_of_ble_eq_true rfl⟩ (b1 := q3) (vs' := []) (c_Dm_init g3.2.1 Zn00 Rn00) (by rw [hq3]) rfl (by omega) rfl (c1s_a c1s_0 (Nat.le_of_ble_eq_true rfl)) (a' := 314) (b' := 7800) rfl rfl ⟨Nat.le_of_ble_eq_true rfl, Nat.le_of_ble_eq_true rfl⟩ ?_
    intro K4 adB sim4 o4 kc4 ag4 g4
    refine J_astO_n o4 dL_law_15 (Nat.le_of_ble_eq_true rfl) ?_
    have simB := (simA.trans sim3).trans sim4
    have agB : Ag 0 157 H.size (fun _ => 0) adB := Ag.trans ag3 ag4 (by omega) (Nat.le_refl _)
    have hadB : ∀ c : Nat, c ≠ 0 → c ≤ TA.nn → H.size ≤ adB c := fun c h0 h1 => agB.2 c (by omega) h1
    have hqB : adB 1 = q3 := (ag4.1 1 (by omega)).trans hq3
    have gB : Inj TA (sad S adB) := Inj_full rfl g4.2.1
    suffices hC : ∀ H1 : Heap, RW wA0 → va_P (EE.D S) vwCl (wsl TA (sad S adA) wA0) H1 → va_P (EE.D S) vwCl (wsl TA (sad S adB) wA0) H1 → s.heap.size ≤ H1.size → (∀ q, q < s.heap.size → H1[q]? = s.heap[q]?) → Jj K4 (WdH H1) () 16 (((entL [Value.ref b] 9).set 1 (some (.ref q1))).set 2 (some (.ref q3))) [] by
      obtain ⟨x, y, rfl⟩ := simB
      subst hK0
      intro H1 locs ls hW hl hc
      obtain ⟨hRW, -, hP, hz, hk, hlo⟩ := hW
      have hP' : va_P (EE.D S) vwCl (wsl (tr TA 157) (sad S adB) wA0) H1 := hP
      rw [wsl_full (show TA.nn = 157 from rfl)] at hP'
      have hAz : ∀ q, AA (tr TA 157) (sad S adB) H.size q → H.size ≤ q := by
        rintro q (⟨c, c0, c1, rfl⟩ | h1)
        · exact hadB c c0 c1
        · exact h1
      refine va_forget (fun q hq => Nat.le_trans hzA (hAz _ (hlo q hq))) ?_
      have hkk : ∀ q, q < H.size → H1[q]? = H[q]? := fun q hq => hk q hq (fun h => absurd hq (Nat.not_lt.mpr (hAz q h)))
      exact hC H1 hRW (keepP hPA (fun c h0 h1 hlt => hkk _ hlt)) hP' (Nat.le_trans hzA hz) (fun q hq => (hkk q (Nat.lt_of_lt_of_le hq hzA)).trans (hkA q hq)) H1 [] ls ⟨rfl, rfl⟩ hl hc
    intro H1 hRB hPA1 hPB1 hz1 hk1
    refine J_bipush o4 dL_law_16 (by decide) ?_
    have hK4s : va_K (EE.D S) vwCl (tysE TA S) (kS K4) := by rw [hG _ simB]; exact hKS
    refine J_newN (tys := tysE TA S) (cI := EE.cI S) o4 hK4s rfl kc4 dL_law_18 mw158 ⟨Nat.le_of_ble_eq_true rfl, Nat.le_of_ble_eq_true rfl⟩ (fun H2 hO hz2 hk2 => ?_)
    have o5 : Ok (kAdd K4 1 6) cL_law "DatalogmillLaw" room_1 := OkQ.add o4
    refine J_astO_n o5 dL_law_20 (Nat.le_of_ble_eq_true rfl) ?_
    have hPA2 := keepP hPA1 (fun c h0 h1 hlt => hk2 _ hlt)
    have hPB2 := keepP hPB1 (fun c h0 h1 hlt => hk2 _ hlt)
    have hltA : ∀ c : Nat, c ≠ 0 → c ≤ TA.nn → adA c < H.size := fun c h0 h1 => vx_lt hPA (wsl_get (T := TA) (E := sad S adA) h0 h1)
    have hltA1 : ∀ c : Nat, c ≠ 0 → c ≤ TA.nn → adA c < H1.size := fun c h0 h1 => vx_lt hPA1 (wsl_get (T := TA) (E := sad S adA) h0 h1)
    have hltB1 : ∀ c : Nat, c ≠ 0 → c ≤ TA.nn → adB c < H1.size := fun c h0 h1 => vx_lt hPB1 (wsl_get (T := TA) (E := sad S adB) h0 h1)
    have sim5 : KSim K (kAdd K4 1 6) := simB.add
    have kS5 : kS (kAdd K4 1 6) = s := hG _ sim5
    generalize hXX : ((S, adA, adB, H1.size, b, L, xs) : QX) = X
    have hnew : ∀ q, AQ X s.heap.size q → s.heap.size ≤ q := by
      subst hXX
      exact AQ_new hadA (fun c h0 h1 => Nat.le_trans hzA (hadB c h0 h1)) hz1
    have gZ : GdQ X (kAdd K4 1 6) s.heap := by
      subst hXX
      refine ⟨⟨by rw [kS5]; exact hKS, by rw [kS5]; exact hN, by rw [kS5]; exact hXS, by rw [kS5]; exact hXN⟩, ⟨gA, gB, fun c h0 h1 => Nat.ne_of_lt (hltA1 c h0 h1), fun c h0 h1 => Nat.ne_of_lt (hltB1 c h0 h1), fun c c' h0 h1 h2 h3 => Nat.ne_of_lt (Nat.lt_of_lt_of_le (hltA c h0 h1) (hadB c' h2 h3))⟩, ?_, by rw [kS5], by rw [kS5]; exact hX, hbl, fun h => absurd hbl (Nat.not_lt.mpr (hnew _ h)), hL⟩
      rw [kS5]
      exact hXH.narrow hnew
    have hkL5 : kL (kAdd K4 1 6) = l := by
      obtain ⟨x, y, hxy⟩ := sim5
      rw [hxy]
      exact hkL
    have hkc5 : kc (kAdd K4 1 6) = 315 := by
      show K4.2.2.2.2.2.2.2.2.2.2.1 + 1 = 315
      rw [kc4.1]
    have hks5 : ks (kAdd K4 1 6) = 7806 := by
      show K4.2.2.2.2.2.2.2.2.2.2.2.1 + 6 = 7806
      rw [kc4.2]
    have k5 : KofQ X (kAdd K4 1 6) s.heap cL_law "DatalogmillLaw" room_1 300000 := ⟨o5, gZ, ⟨by rw [hkc5]; exact Nat.le_of_ble_eq_true rfl, by rw [hks5]; exact Nat.le_of_ble_eq_true rfl⟩, by rw [hkL5]; exact hst⟩
    have hXn : QX.n X = L := by subst hXX; rfl
    obtain ⟨z', hf⟩ := hS (QX.n X) (scQ X) (by rw [hXn]; exact hL) (R_scQ X)
    have hend : RetQZ X (kAdd K4 1 6) s.heap cL_law 300000 z' 1 := by
      intro pc L' t ht _ d
      obtain ⟨x, y, hxy⟩ := sim5
      have hk1' : kc (kAdd K4 1 6) = 0 + x := by rw [hxy]; subst hK0; rfl
      have hk2' : ks (kAdd K4 1 6) = 0 + y := by rw [hxy]; subst hK0; rfl
      rw [hxy]
      subst hK0
      intro H9 locs9 ls9 hW9 hl9 hc9
      refine va_forget (fun q hq => hnew _ (hW9.2.2.2.2 q hq)) ?_
      refine W.widen (k := 676259) (n := 7073052) (by show 0 + x + t ≤ 676259; omega) (by show 0 + y + 6 * t ≤ 7073052; omega) ?_
      exact lw_ret hx hb hr hlocks d
    have hbody := t_L_law_21 k5 (z := (wA0, wA0, fun _ => 0)) (o4 := none) (o5 := none) (o6 := none) (o7 := none) (o8 := none) hf hend
    intro H9 locs9 ls9 hW9 hl9 hc9
    obtain ⟨rfl, rfl⟩ := hW9
    have r1 : Value.ref q1 = rf (QX.M X false).ad 1 := by subst hXX; exact rfa (S := S) hqA (by omega)
    have r3 : Value.ref q3 = rf (QX.M X true).ad 1 := by subst hXX; exact rfa (S := S) hqB (by omega)
    have r4 : Value.ref b = Value.ref (QX.b X) := by subst hXX; rfl
    have r5 : Value.ref H1.size = Value.ref (QX.oa X) := by subst hXX; rfl
    rw [r1, r3, r4, r5] at hl9 hc9
    have hP : va_P (QX.S X).D vwCl (lsQ X (wA0, wA0, fun _ => 0)) H9 := by
      subst hXX
      exact va_P.app (va_P.app hPA2 hPB2) (fun k q hq => by
        cases k with
        | zero => cases hq; exact hO
        | succ k => cases hq)
    exact hbody H9 [] ls9 ⟨⟨⟨hRA, FxA0⟩, ⟨hRB, FxA0⟩, fun _ => (⟨by decide, by decide⟩ : R32 0)⟩, hP, by rw [hz2]; omega, fun q h1 h2 => (hk2 q (Nat.lt_of_lt_of_le h1 hz1)).trans (hk1 q h1), fun q hq => (by cases hq)⟩ hl9 hc9
  exact main s.heap [] _ ⟨RW00, tr_Fx, fun k q h => (by cases h), va_S.rf⟩ e1 e2
