/-! THE LAW'S OWN BODY: its world, reading the script, calling wrappers and the reference -/
abbrev ZZ : Type := World × World × (Nat → Int64)
/-- what the law has: the class's cells, the reference's, the row of one long, the script -/
abbrev LX : Type := EE × (Nat → Nat) × (Nat → Nat) × OO × Nat × Nat × (Nat → Int32)
abbrev LX.S (X : LX) : EE := X.1
abbrev LX.A (X : LX) : EE := sad X.1 X.2.1
abbrev LX.B (X : LX) : EE := sad X.1 X.2.2.1
abbrev LX.O (X : LX) : OO := X.2.2.2.1
abbrev LX.b (X : LX) : Nat := X.2.2.2.2.1
abbrev LX.n (X : LX) : Nat := X.2.2.2.2.2.1
abbrev LX.xs (X : LX) : Nat → Int32 := X.2.2.2.2.2.2
def sc (X : LX) (n : Nat) : Int := (X.xs n).toInt
theorem R_sc (X : LX) (n : Nat) : R32 (sc X n) := R_toInt _
def WdZ (X : LX) (H0 : Heap) : ZZ → Heap → List Loc → Prop := fun z H locs => (RW z.1 ∧ Fx TA z.1) ∧ (RW z.2.1 ∧ Fx TB z.2.1) ∧ (va_P X.S.D vwCl (wsl TA X.A z.1) H ∧ va_P X.S.D vwCl (wsl TB X.B z.2.1) H ∧ va_at X.S.D vwCl (X.O.2, outE X.O.1 z.2.2) H) ∧ va_S (fun q => H0.size ≤ q) H0 H locs
def GdZ (X : LX) (K : KT) (H0 : Heap) : Prop := (va_K X.S.D vwCl (tysE TA X.A ++ [(X.O.1, .long)]) (kS K) ∧ NWs (kS K) ∧ XS (kS K) ∧ XNs (kS K)) ∧ (Inj TA X.A ∧ Inj TB X.B ∧ Ap TA X.A X.O.2 ∧ Ap TB X.B X.O.2 ∧ ∀ c c' : Nat, c ≠ 0 → c ≤ TA.nn → c' ≠ 0 → c' ≤ TB.nn → X.A.ad c ≠ X.B.ad c') ∧ ((∀ c : Nat, c ≠ 0 → c ≤ TA.nn → H0.size ≤ X.A.ad c) ∧ (∀ c : Nat, c ≠ 0 → c ≤ TB.nn → H0.size ≤ X.B.ad c) ∧ H0.size ≤ X.O.2) ∧ XH (fun q => H0.size ≤ q) (kS K) H0 ∧ (kS K).heap = H0 ∧ va_X X.b X.n X.xs (kS K) H0 ∧ X.b < H0.size
theorem GdZ.add {X : LX} {K : KT} {H0 : Heap} {a b : Nat} (h : GdZ X K H0) : GdZ X (kAdd K a b) H0 := by
  obtain ⟨p, l, e, R, s, m, args, below, meth, c, cells, slots, Q⟩ := K
  exact h
theorem KC.add {K : KT} {a b c d : Nat} (h : KC K a b) : KC (kAdd K c d) (a + c) (b + d) := by
  obtain ⟨p, l, e, R, s, m, args, below, meth, cd, cells, slots, Q⟩ := K
  exact ⟨congrArg (fun v => v + c) h.1, congrArg (fun v => v + d) h.2⟩
theorem kL_add {K : KT} {a b : Nat} : kL (kAdd K a b) = kL K := rfl
theorem AA_Z {T : TT} {E : EE} {H H0 : Heap} (h : H0.size ≤ H.size) (ha : ∀ c : Nat, c ≠ 0 → c ≤ T.nn → H0.size ≤ E.ad c) : ∀ q, AA T E H.size q → H0.size ≤ q := by
  rintro q (⟨c, c0, c1, rfl⟩ | h1)
  · exact ha c c0 c1
  · exact Nat.le_trans h h1
theorem AL_Z {T : TT} {E : EE} {H H0 : Heap} {oa : Nat} (h : H0.size ≤ H.size) (ha : ∀ c : Nat, c ≠ 0 → c ≤ T.nn → H0.size ≤ E.ad c) (ho : H0.size ≤ oa) : ∀ q, AL T E oa H.size q → H0.size ≤ q := by
  rintro q (h1 | rfl)
  · exact AA_Z h ha q h1
  · exact ho
theorem keepP {T : TT} {E : EE} {D : va_G} {w : World} {H H1 : Heap} (h : va_P D vwCl (wsl T E w) H) (hk : ∀ c : Nat, c ≠ 0 → c ≤ T.nn → E.ad c < H.size → H1[E.ad c]? = H[E.ad c]?) : va_P D vwCl (wsl T E w) H1 :=
  va_P.kept h (fun k q hq => by
    have hlt := vx_lt h hq
    obtain ⟨h1, rfl⟩ := wsl_spec hq
    exact hk (k + 1) (by omega) (by omega) hlt)
theorem at_lt {D : va_G} {q : Nat} {cJ : ClassId} {v : Nat → Int64} {H : Heap} (h : va_at D vwCl (q, outE cJ v) H) : q < H.size := (Array.getElem?_eq_some_iff.mp h).1
section JZ
variable {X : LX} {K : KT} {z : ZZ} {H0 : Heap} {pc idx : Nat} {L : List (Option Value)} {st vs : List Value} {cc bytes : ByteArray} {own : String} {rm rm' : Room} {y : MethodName} {maxL np : Nat} {ret : Option FieldType} {b κ : Nat} {hh : List (Nat × Nat × Nat × Nat)}
theorem J_sld {n : Nat} {i : Int} (o : Ok K cc own rm) (g : GdZ X K H0) (d : decode cc pc = .ok (.iaload, 1)) (hi : i = (n : Int)) (hn : n < X.n) (hN : X.n ≤ 4096) (k : Jj K (WdZ X H0) z (pc + 1) L (.int (ii (sc X n)) :: st)) : Jj K (WdZ X H0) z pc L (.int (ii i) :: .ref X.b :: st) := by
  subst hi
  obtain ⟨p, l, e, R, s, m, args, below, meth, c, cells, slots, Q⟩ := K
  intro H locs ls hW hl hc
  have h2 := k H locs ls hW hl hc
  obtain ⟨-, -, -, hS⟩ := hW
  obtain ⟨-, -, -, -, -, hX, hb⟩ := g
  have hr : R32 (n : Int) := ⟨by omega, by omega⟩
  refine va_sld o.1 o.2.1 hX hb (fun h => absurd hb (Nat.not_lt.mpr h)) hS (vp_in_ii hr ⟨by omega, by omega⟩) d ?_
  rw [ii_clamp hr]
  have e9 : ii (sc X n) = X.xs n := toInt_ii _
  rw [e9] at h2
  exact h2
theorem J_slen (o : Ok K cc own rm) (g : GdZ X K H0) (d : decode cc pc = .ok (.arraylength, 1)) (k : Jj K (WdZ X H0) z (pc + 1) L (.int (ii (X.n : Int)) :: st)) : Jj K (WdZ X H0) z pc L (.ref X.b :: st) := by
  obtain ⟨p, l, e, R, s, m, args, below, meth, c, cells, slots, Q⟩ := K
  intro H locs ls hW hl hc
  have h2 := k H locs ls hW hl hc
  obtain ⟨-, -, -, hS⟩ := hW
  obtain ⟨-, -, -, -, -, hX, hb⟩ := g
  refine va_slen o.1 o.2.1 hX hb (fun h => absurd hb (Nat.not_lt.mpr h)) hS d ?_
  have e9 : Int32.ofNat X.n = ii (X.n : Int) := (Int32.ofInt_eq_ofNat).symm
  rw [e9]
  exact h2
theorem J_lald {i : Int} (o : Ok K cc own rm) (g : GdZ X K H0) (d : decode cc pc = .ok (.laload, 1)) (hi : i = 0) (k : Jj K (WdZ X H0) z (pc + 1) L (.long (z.2.2 0) :: st)) : Jj K (WdZ X H0) z pc L (.int (ii i) :: .ref X.O.2 :: st) := by
  subst hi
  obtain ⟨p, l, e, R, s, m, args, below, meth, c, cells, slots, Q⟩ := K
  intro H locs ls hW hl hc
  have h2 := k H locs ls hW hl hc
  obtain ⟨-, -, ⟨-, -, ho⟩, hS⟩ := hW
  obtain ⟨⟨gK, -⟩, -⟩ := g
  have hP : va_P X.S.D vwCl [(X.O.2, outE X.O.1 z.2.2)] H := fun k q hq => by
    cases k with
    | zero => cases hq; exact ho
    | succ k => cases hq
  have h3 : (ii 0).toNatClampNeg = 0 := rfl
  refine va_lald (D := X.S.D) (cl := vwCl) (tys := tysE TA X.A ++ [(X.O.1, .long)]) o.1 o.2.1 gK hP 0 4 rfl rfl (vp_in_ii ⟨by decide, by decide⟩ (by decide)) d ?_
  rw [h3]
  exact h2
theorem J_lcmp {ω : Type} {Wd : ω → Heap → List Loc → Prop} {w : ω} {x u : Int64} (o : Ok K cc own rm) (d : decode cc pc = .ok (.lcmp, 1)) (hx : x.toInt = u.toInt) (k : Jj K Wd w (pc + 1) L (.int (ii 0) :: st)) : Jj K Wd w pc L (.long u :: .long x :: st) := by
  have e : x = u := Int64.toInt_inj.mp hx
  subst e
  obtain ⟨p, l, e, R, s, m, args, below, meth, c, cells, slots, Q⟩ := K
  intro H locs ls hW hl hc
  have e0 : lg_cmp x x = ii 0 := by
    have h1 : ¬ x < x := by
      intro h
      exact absurd (Int64.lt_iff_toInt_lt.mp h) (Int.lt_irrefl _)
    simp [lg_cmp]
    rfl
  refine W.lcmp o.1 o.2.1 d ?_
  rw [e0]
  exact k H locs ls hW hl hc
/-- a wrapper is called -/
theorem J_wO {a9 b9 : Nat} {out : World × Nat × Int} {ov : Bool} {hm : Nat → Int} {stk : List Value} (o : Ok K cc own rm) (g : GdZ X K H0) (kc : KC K a9 b9) (d : decode cc pc = .ok (.invokestatic idx, 3)) (lk : Cond.methodLink own idx y ∈ GW) (cw : Cond.codeWith y bytes maxL ret hh ∈ GW) (sl : Cond.static y ∈ GW) (ini : Cond.initialized y.cls ∈ GW) (hd : y.cls ≠ "java/lang/invoke/MethodHandle" ∧ y.cls ≠ "java/lang/invoke/VarHandle" ∧ (parseMethodDescriptor y.desc).map (fun d => d.parameters.length) = some np) (hrm : rm'.cells = 1 ∧ rm'.slots = 6 ∧ rm'.frames + 1 ≤ rm.frames ∧ 8 + (maxL + 11) + rm'.locals ≤ rm.locals) (hroom : a9 + 1 ≤ rm.cells ∧ b9 + 6 ≤ rm.slots)
    (hM : ConO TA X.A X.O (kL K) y (WSW y bytes maxL ret hh) rm' vs (z.1, z.2.2) out ov hm) (hn : vs.length = np) (hk : stk = vs.reverse ++ st) (hst : c1s st)
    (k : ∀ u : Nat → Int64, (ov = true → out.2.1 = 0 → (u 0).toInt = out.2.2) → R32 (hm out.2.1) → Jj (kAdd K 1 6) (WdZ X H0) (out.1, z.2.1, u) (pc + 3) L (.int (ii (hm out.2.1)) :: st)) : Jj K (WdZ X H0) z pc L stk := by
  subst hk
  obtain ⟨p, l, e, R, s, m, args, below, meth, cd, cells, slots, Q⟩ := K
  intro H locs ls hW hl hc
  obtain ⟨⟨hRA, hFA⟩, ⟨hRB, hFB⟩, ⟨hPA, hPB, hO⟩, hS⟩ := hW
  obtain ⟨⟨gK, gN, gX, gY⟩, ⟨gIA, gIB, gAA, gAB, gAp⟩, ⟨gzA, gzB, gzO⟩, gH, gh, -, -⟩ := g
  have gh : s.heap = H0 := gh
  subst gh
  have hts := o.2.2.2.1
  have hRr : R = rm := o.2.2.2.2.2
  have hPO : va_P X.S.D vwCl [(X.O.2, outE X.O.1 z.2.2)] H := fun k q hq => by
    cases k with
    | zero => cases hq; exact hO
    | succ k => cases hq
  have hxh : XH (AL TA X.A X.O.2 H.size) s H := (gH.kept (fun q h1 h2 => hS.2.1 q h1 h2)).narrow (AL_Z hS.1 gzA gzO)
  have hlen : ∀ sig, parseMethodDescriptor y.desc = some sig → np = sig.parameters.length := fun sig h => by
    have h2 := hd.2.2
    rw [h] at h2
    exact (Option.some.inj h2).symm
  have hpre : PreS s H (va_Pc vs (PreO TA X.A X.O (z.1, z.2.2) H.size)) vs := ⟨PreO_blind, fun U hU hWm => ⟨rfl, by rw [hU], ⟨hRA, hFA, by rw [hU]; exact va_P.app hPA hPO⟩, ⟨va_K.moved hWm.alike gK, gN.warm hWm, gX.warm hWm, gY.warm hWm⟩, by rw [hU]; exact hxh.moved hWm.alike⟩⟩
  have hg : GoodIn GW (WSW y bytes maxL ret hh) := fun w hw => by
    have hm : w ∈ GW := by
      rcases List.mem_cons.mp hw with e | e
      · rw [e]; exact cw
      · exact e
    exact ⟨hm, good_of_word (GW_good w hm)⟩
  have e0 : cells = a9 := kc.1
  have e1 : slots = b9 := kc.2
  have run := vx_runSX (p := p) (l := l) (e := e) (R := R) (s := s) (m := m) (args := args) (below := below) (meth := meth) (c := cd) (H := H) (locs := locs) (cells := cells) (slots := slots) (Ts := GW) (nL := cd.maxLocals) (As := vs) (rest := st) (g := F0 m pc ls (vs.reverse ++ st)) (hh := hh) ⟨o.1, o.2.1, rfl, o.2.2.1, hts⟩ (hM H.size) ⟨⟨hrm.1, hrm.2.1, by rw [hRr]; exact hrm.2.2.1, by rw [hRr]; exact hrm.2.2.2, pay_in hts hg, List.mem_cons_self⟩, hts _ cw, hts _ ini, ⟨hd.1, hd.2.1⟩, hlen, hts _ lk, hts _ sl⟩ hpre rfl hn hl.1 rfl (lv_room (c1s_sum hst)) d ⟨by rw [hRr, e0]; exact hroom.1, by rw [hRr, e1]; exact hroom.2⟩
  refine vx_calli run hS (fun q _ h => AL_Z hS.1 gzA gzO q h) (AL_Z hS.1 gzA gzO) (fun q _ h => AL_Z hS.1 gzA gzO q h) (fun _ _ _ _ _ _ _ _ _ hu => hu.elim) ?_
  intro r u t H1 locs1 ht hvm hv hB hz hk1 hS1
  obtain ⟨hR1, hF1, hP1⟩ := hB
  rw [ht] at hP1
  have hr32 : R32 (hm out.2.1) := by rw [← hv.1]; exact R_toInt r
  have hr2 : r = ii (hm out.2.1) := by rw [← hv.1]; exact (toInt_ii r).symm
  rw [hr2]
  refine k u hv.2 hr32 H1 locs1 ls ⟨⟨hR1, hF1⟩, ⟨hRB, hFB⟩, ⟨fun k q hq => hP1 k q (by
    unfold lsW
    rw [List.getElem?_append_left (List.getElem?_eq_some_iff.mp hq).1]
    exact hq), keepP hPB (fun c c0 c1 hlt => hk1 _ hlt ?_), hP1 TA.nn _ lsW_last⟩, hS1⟩ hl hc
  rintro ((⟨c', h0, h1, h2⟩ | h2) | h2)
  · exact gAp c' c h0 h1 c0 c1 h2.symm
  · exact absurd hlt (Nat.not_lt.mpr h2)
  · exact gAB c c0 c1 h2

theorem J_aI {r : Int} {w' : World} {stk : List Value} (o : Ok K cc own rm) (g : GdZ X K H0) (kr : KR K) (d : decode cc pc = .ok (.invokevirtual idx, 3)) (lk : LK own idx y) (ml : ML y bytes maxL ret np) (vl : VL y) (hrm : rmLe rm' rm maxL)
    (hM : ConI TA X.A (kL K) y (WS y bytes maxL ret) rm' (rf X.A.ad b :: vs) z.1 w' r) (hb : TA.kd b = κ) (hcn : (TA.cl[κ - 1]?).map (fun q => q.1) = some y.cls) (hκ : 0 < κ ∧ κ < 40) (hn : vs.length = np) (hk : stk = vs.reverse ++ rf X.A.ad b :: st) (hst : c1s st)
    (k : R32 r → Jj K (WdZ X H0) (w', z.2.1, z.2.2) (pc + 3) L (.int (ii r) :: st)) : Jj K (WdZ X H0) z pc L stk := by
  subst hk
  obtain ⟨p, l, e, R, s, m, args, below, meth, cd, cells, slots, Q⟩ := K
  intro H locs ls hW hl hc
  obtain ⟨⟨hRA, hFA⟩, ⟨hRB, hFB⟩, ⟨hPA, hPB, hO⟩, hS⟩ := hW
  obtain ⟨⟨gK, gN, gX, gY⟩, ⟨gIA, gIB, gAA, gAB, gAp⟩, ⟨gzA, gzB, gzO⟩, gH, gh, -, -⟩ := g
  have gK1 : va_K X.A.D TA.cl (tysE TA X.A) s := va_K.sub gK [0, 1, 2, 3] rfl
  have hWd : WdT TA X.A H0 z.1 H locs := ⟨hRA, hFA, hPA, hS.1, fun q h1 h2 => hS.2.1 q h1 (fun h => absurd h1 (Nat.not_lt.mpr h)), fun q hq => Or.inr (hS.2.2 q hq)⟩
  refine va_calli (run_V (T := TA) (E := X.A) (H0 := H0) (w := z.1) o ⟨gK1, gIA, TnA, gN⟩ d lk ml vl hrm (hM H.size) hb hcn hκ hn hst kr.1 kr.2 hWd hl) hS (fun q _ h => AA_Z hS.1 gzA q h) (AA_Z hS.1 gzA) (fun v u t H1 locs1 ht hvm hv hB hz hk1 hS1 => ?_)
  have hr : R32 r := by rw [← hv]; exact R_toInt v
  have hv2 : v = ii r := by rw [← hv]; exact (toInt_ii v).symm
  rw [hv2]
  have hP1 := hB.2.2.1
  rw [ht] at hP1
  have hoa : H1[X.O.2]? = H[X.O.2]? := hk1 _ (at_lt hO) (by
    rintro (⟨c', h0, h1, h2⟩ | h2)
    · exact gAA c' h0 h1 h2.symm
    · exact absurd (at_lt hO) (Nat.not_lt.mpr h2))
  have hother : va_P X.S.D vwCl (wsl TB X.B z.2.1) H1 := keepP hPB (fun c c0 c1 hlt => hk1 _ hlt (by
    rintro (⟨c', h0, h1, h2⟩ | h2)
    · exact gAp c' c h0 h1 c0 c1 h2.symm
    · exact absurd hlt (Nat.not_lt.mpr h2)))
  exact k hr H1 locs1 ls ⟨⟨hB.1, hB.2.1⟩, ⟨hRB, hFB⟩, ⟨hP1, hother, hoa.trans hO⟩, hS1⟩ hl hc
theorem J_aV {w' : World} {stk : List Value} (o : Ok K cc own rm) (g : GdZ X K H0) (kr : KR K) (d : decode cc pc = .ok (.invokevirtual idx, 3)) (lk : LK own idx y) (ml : ML y bytes maxL ret np) (vl : VL y) (hrm : rmLe rm' rm maxL)
    (hM : ConV TA X.A (kL K) y (WS y bytes maxL ret) rm' (rf X.A.ad b :: vs) z.1 w') (hb : TA.kd b = κ) (hcn : (TA.cl[κ - 1]?).map (fun q => q.1) = some y.cls) (hκ : 0 < κ ∧ κ < 40) (hn : vs.length = np) (hk : stk = vs.reverse ++ rf X.A.ad b :: st) (hst : c1s st)
    (k : Jj K (WdZ X H0) (w', z.2.1, z.2.2) (pc + 3) L st) : Jj K (WdZ X H0) z pc L stk := by
  subst hk
  obtain ⟨p, l, e, R, s, m, args, below, meth, cd, cells, slots, Q⟩ := K
  intro H locs ls hW hl hc
  obtain ⟨⟨hRA, hFA⟩, ⟨hRB, hFB⟩, ⟨hPA, hPB, hO⟩, hS⟩ := hW
  obtain ⟨⟨gK, gN, gX, gY⟩, ⟨gIA, gIB, gAA, gAB, gAp⟩, ⟨gzA, gzB, gzO⟩, gH, gh, -, -⟩ := g
  have gK1 : va_K X.A.D TA.cl (tysE TA X.A) s := va_K.sub gK [0, 1, 2, 3] rfl
  have hWd : WdT TA X.A H0 z.1 H locs := ⟨hRA, hFA, hPA, hS.1, fun q h1 h2 => hS.2.1 q h1 (fun h => absurd h1 (Nat.not_lt.mpr h)), fun q hq => Or.inr (hS.2.2 q hq)⟩
  refine va_callv (run_V (T := TA) (E := X.A) (H0 := H0) (w := z.1) o ⟨gK1, gIA, TnA, gN⟩ d lk ml vl hrm (hM H.size) hb hcn hκ hn hst kr.1 kr.2 hWd hl) hS (fun q _ h => AA_Z hS.1 gzA q h) (AA_Z hS.1 gzA) (fun u t H1 locs1 ht hvm hv hB hz hk1 hS1 => ?_)
  have hP1 := hB.2.2.1
  rw [ht] at hP1
  have hoa : H1[X.O.2]? = H[X.O.2]? := hk1 _ (at_lt hO) (by
    rintro (⟨c', h0, h1, h2⟩ | h2)
    · exact gAA c' h0 h1 h2.symm
    · exact absurd (at_lt hO) (Nat.not_lt.mpr h2))
  have hother : va_P X.S.D vwCl (wsl TB X.B z.2.1) H1 := keepP hPB (fun c c0 c1 hlt => hk1 _ hlt (by
    rintro (⟨c', h0, h1, h2⟩ | h2)
    · exact gAp c' c h0 h1 c0 c1 h2.symm
    · exact absurd hlt (Nat.not_lt.mpr h2)))
  exact k H1 locs1 ls ⟨⟨hB.1, hB.2.1⟩, ⟨hRB, hFB⟩, ⟨hP1, hother, hoa.trans hO⟩, hS1⟩ hl hc
theorem J_bI {r : Int} {w' : World} {stk : List Value} (o : Ok K cc own rm) (g : GdZ X K H0) (kr : KR K) (d : decode cc pc = .ok (.invokevirtual idx, 3)) (lk : LK own idx y) (ml : ML y bytes maxL ret np) (vl : VL y) (hrm : rmLe rm' rm maxL)
    (hM : ConI TB X.B (kL K) y (WS y bytes maxL ret) rm' (rf X.B.ad b :: vs) z.2.1 w' r) (hb : TB.kd b = κ) (hcn : (TB.cl[κ - 1]?).map (fun q => q.1) = some y.cls) (hκ : 0 < κ ∧ κ < 40) (hn : vs.length = np) (hk : stk = vs.reverse ++ rf X.B.ad b :: st) (hst : c1s st)
    (k : R32 r → Jj K (WdZ X H0) (z.1, w', z.2.2) (pc + 3) L (.int (ii r) :: st)) : Jj K (WdZ X H0) z pc L stk := by
  subst hk
  obtain ⟨p, l, e, R, s, m, args, below, meth, cd, cells, slots, Q⟩ := K
  intro H locs ls hW hl hc
  obtain ⟨⟨hRA, hFA⟩, ⟨hRB, hFB⟩, ⟨hPA, hPB, hO⟩, hS⟩ := hW
  obtain ⟨⟨gK, gN, gX, gY⟩, ⟨gIA, gIB, gAA, gAB, gAp⟩, ⟨gzA, gzB, gzO⟩, gH, gh, -, -⟩ := g
  have gK1 : va_K X.B.D TB.cl (tysE TB X.B) s := va_K.sub gK [0, 1, 2, 3] rfl
  have hWd : WdT TB X.B H0 z.2.1 H locs := ⟨hRB, hFB, hPB, hS.1, fun q h1 h2 => hS.2.1 q h1 (fun h => absurd h1 (Nat.not_lt.mpr h)), fun q hq => Or.inr (hS.2.2 q hq)⟩
  refine va_calli (run_V (T := TB) (E := X.B) (H0 := H0) (w := z.2.1) o ⟨gK1, gIB, TnB, gN⟩ d lk ml vl hrm (hM H.size) hb hcn hκ hn hst kr.1 kr.2 hWd hl) hS (fun q _ h => AA_Z hS.1 gzB q h) (AA_Z hS.1 gzB) (fun v u t H1 locs1 ht hvm hv hB hz hk1 hS1 => ?_)
  have hr : R32 r := by rw [← hv]; exact R_toInt v
  have hv2 : v = ii r := by rw [← hv]; exact (toInt_ii v).symm
  rw [hv2]
  have hP1 := hB.2.2.1
  rw [ht] at hP1
  have hoa : H1[X.O.2]? = H[X.O.2]? := hk1 _ (at_lt hO) (by
    rintro (⟨c', h0, h1, h2⟩ | h2)
    · exact gAB c' h0 h1 h2.symm
    · exact absurd (at_lt hO) (Nat.not_lt.mpr h2))
  have hother : va_P X.S.D vwCl (wsl TA X.A z.1) H1 := keepP hPA (fun c c0 c1 hlt => hk1 _ hlt (by
    rintro (⟨c', h0, h1, h2⟩ | h2)
    · exact gAp c c' c0 c1 h0 h1 h2
    · exact absurd hlt (Nat.not_lt.mpr h2)))
  exact k hr H1 locs1 ls ⟨⟨hRA, hFA⟩, ⟨hB.1, hB.2.1⟩, ⟨hother, hP1, hoa.trans hO⟩, hS1⟩ hl hc
theorem J_bV {w' : World} {stk : List Value} (o : Ok K cc own rm) (g : GdZ X K H0) (kr : KR K) (d : decode cc pc = .ok (.invokevirtual idx, 3)) (lk : LK own idx y) (ml : ML y bytes maxL ret np) (vl : VL y) (hrm : rmLe rm' rm maxL)
    (hM : ConV TB X.B (kL K) y (WS y bytes maxL ret) rm' (rf X.B.ad b :: vs) z.2.1 w') (hb : TB.kd b = κ) (hcn : (TB.cl[κ - 1]?).map (fun q => q.1) = some y.cls) (hκ : 0 < κ ∧ κ < 40) (hn : vs.length = np) (hk : stk = vs.reverse ++ rf X.B.ad b :: st) (hst : c1s st)
    (k : Jj K (WdZ X H0) (z.1, w', z.2.2) (pc + 3) L st) : Jj K (WdZ X H0) z pc L stk := by
  subst hk
  obtain ⟨p, l, e, R, s, m, args, below, meth, cd, cells, slots, Q⟩ := K
  intro H locs ls hW hl hc
  obtain ⟨⟨hRA, hFA⟩, ⟨hRB, hFB⟩, ⟨hPA, hPB, hO⟩, hS⟩ := hW
  obtain ⟨⟨gK, gN, gX, gY⟩, ⟨gIA, gIB, gAA, gAB, gAp⟩, ⟨gzA, gzB, gzO⟩, gH, gh, -, -⟩ := g
  have gK1 : va_K X.B.D TB.cl (tysE TB X.B) s := va_K.sub gK [0, 1, 2, 3] rfl
  have hWd : WdT TB X.B H0 z.2.1 H locs := ⟨hRB, hFB, hPB, hS.1, fun q h1 h2 => hS.2.1 q h1 (fun h => absurd h1 (Nat.not_lt.mpr h)), fun q hq => Or.inr (hS.2.2 q hq)⟩
  refine va_callv (run_V (T := TB) (E := X.B) (H0 := H0) (w := z.2.1) o ⟨gK1, gIB, TnB, gN⟩ d lk ml vl hrm (hM H.size) hb hcn hκ hn hst kr.1 kr.2 hWd hl) hS (fun q _ h => AA_Z hS.1 gzB q h) (AA_Z hS.1 gzB) (fun u t H1 locs1 ht hvm hv hB hz hk1 hS1 => ?_)
  have hP1 := hB.2.2.1
  rw [ht] at hP1
  have hoa : H1[X.O.2]? = H[X.O.2]? := hk1 _ (at_lt hO) (by
    rintro (⟨c', h0, h1, h2⟩ | h2)
    · exact gAB c' h0 h1 h2.symm
    · exact absurd (at_lt hO) (Nat.not_lt.mpr h2))
  have hother : va_P X.S.D vwCl (wsl TA X.A z.1) H1 := keepP hPA (fun c c0 c1 hlt => hk1 _ hlt (by
    rintro (⟨c', h0, h1, h2⟩ | h2)
    · exact gAp c c' c0 c1 h0 h1 h2
    · exact absurd hlt (Nat.not_lt.mpr h2)))
  exact k H1 locs1 ls ⟨⟨hRA, hFA⟩, ⟨hB.1, hB.2.1⟩, ⟨hother, hP1, hoa.trans hO⟩, hS1⟩ hl hc
theorem J_tabI {dflt lo hi : Int} {offs : Array Int} {len : Nat} {x off : Int} (tgt : Nat) {ω : Type} {Wd : ω → Heap → List Loc → Prop} {w : ω} (o : Ok K cc own rm) (d : decode cc pc = .ok (.tableswitch dflt lo hi offs, len)) (hx : R32 x) (h1 : lo ≤ x ∧ x ≤ hi) (ho : offs[(x - lo).toNat]? = some off) (ht : (pc : Int) + off = (tgt : Int)) (k : Jj K Wd w tgt L st) : Jj K Wd w pc L (.int (ii x) :: st) := by
  obtain ⟨p, l, e, R, s, m, args, below, meth, c, cells, slots, Q⟩ := K
  intro H locs ls hW hl hc
  exact lv_tableIn o.1 o.2.1 d (by rw [ii_toInt hx]; omega) (by rw [ii_toInt hx]; omega) (by rw [ii_toInt hx]; exact ho) ht (k H locs ls hW hl hc)
theorem J_tabO {dflt lo hi : Int} {offs : Array Int} {len : Nat} {x : Int} (tgt : Nat) {ω : Type} {Wd : ω → Heap → List Loc → Prop} {w : ω} (o : Ok K cc own rm) (d : decode cc pc = .ok (.tableswitch dflt lo hi offs, len)) (hx : R32 x) (h1 : x < lo ∨ hi < x) (ht : (pc : Int) + dflt = (tgt : Int)) (k : Jj K Wd w tgt L st) : Jj K Wd w pc L (.int (ii x) :: st) := by
  obtain ⟨p, l, e, R, s, m, args, below, meth, c, cells, slots, Q⟩ := K
  intro H locs ls hW hl hc
  exact lv_tableOut o.1 o.2.1 d (by rw [ii_toInt hx]; exact h1) ht (k H locs ls hW hl hc)
end JZ
