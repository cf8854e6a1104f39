/-! CONTRACTS: what a method does to the world; calls and returns -/
def StA (T : TT) (E : EE) (w : World) (U : State) : Prop := RW w ∧ Fx T w ∧ va_P E.D T.cl (wsl T E w) U.heap ∧ va_K E.D T.cl (tysE T E) U ∧ NWs U
def PreA (T : TT) (E : EE) (w : World) (sz : Nat) (U : State) : Prop := U.heap.size = sz ∧ StA T E w U
def ConI (T : TT) (E : EE) (l : Launch) (y : MethodName) (ws : List Cond) (rm : Room) (vs : List Value) (w w' : World) (r : Int) : Prop :=
  ∀ sz : Nat, Met l y ws rm (va_Pc vs (PreA T E w sz)) (va_Qi (fun (v : Int32) (_ : Unit) => v.toInt = r) (fun _ t => StA T E w' t) (AA T E sz)) 0 0 (AA T E sz)
def ConV (T : TT) (E : EE) (l : Launch) (y : MethodName) (ws : List Cond) (rm : Room) (vs : List Value) (w w' : World) : Prop :=
  ∀ sz : Nat, Met l y ws rm (va_Pc vs (PreA T E w sz)) (va_Qv (fun (_ : Unit) => True) (fun _ t => StA T E w' t) (AA T E sz)) 0 0 (AA T E sz)
def ConR (T : TT) (E : EE) (l : Launch) (y : MethodName) (ws : List Cond) (rm : Room) (vs : List Value) (w w' : World) (r : Nat) : Prop :=
  ∀ sz : Nat, Met l y ws rm (va_Pc vs (PreA T E w sz)) (va_Qq (fun (v : Option Nat) (_ : Unit) => v = rq E.ad r) (fun _ t => StA T E w' t) (AA T E sz)) 0 0 (AA T E sz)
theorem PreA_blind {T : TT} {E : EE} {w : World} {sz : Nat} {vs : List Value} : FrameBlind (va_Pc vs (PreA T E w sz)) := fun a U g mk q => by
  obtain ⟨q0, q1, q2, q3, qP, qK, qN⟩ := q
  exact ⟨q0, q1, q2, q3, qP, va_K.moved (u := U) (U := U.calling g mk a) (Vm.Alike.refl U.vm) qK, qN.same rfl⟩
/-- a method of the tables -/
def ML (y : MethodName) (bytes : ByteArray) (maxL : Nat) (ret : Option FieldType) (np : Nat) : Prop :=
  Cond.code y bytes maxL ret ∈ GW ∧ Cond.initialized y.cls ∈ GW ∧ (y.cls ≠ "java/lang/invoke/MethodHandle" ∧ y.cls ≠ "java/lang/invoke/VarHandle" ∧ (parseMethodDescriptor y.desc).map (fun d => d.parameters.length) = some np)
def VL (y : MethodName) : Prop := Cond.instanceMethod y ∈ GW ∧ Cond.selects y.cls y y ∈ GW
def LK (own : String) (idx : Nat) (y : MethodName) : Prop := Cond.methodLink own idx y ∈ GW ∨ ∃ host, Cond.methodLinkNest own idx y host ∈ lw_tbl
def rmLe (rm rm' : Room) (maxL : Nat) : Prop := rm.cells = 0 ∧ rm.slots = 0 ∧ rm.frames + 1 ≤ rm'.frames ∧ 8 + (maxL + 11) + rm.locals ≤ rm'.locals
def c1s (st : List Value) : Prop := (∀ v ∈ st, v.category = 1) ∧ st.length ≤ 8
theorem c1s_0 : c1s [] := ⟨fun _ h => absurd h List.not_mem_nil, Nat.zero_le _⟩
theorem c1s_i {x : Int} {st : List Value} (h : c1s st) (hl : st.length + 1 ≤ 8) : c1s (.int (ii x) :: st) := ⟨fun v hv => (List.mem_cons.mp hv).elim (fun e => by rw [e]; rfl) (h.1 v), hl⟩
theorem c1s_r {ad : Nat → Nat} {c : Nat} {st : List Value} (h : c1s st) (hl : st.length + 1 ≤ 8) : c1s (rf ad c :: st) := ⟨fun v hv => (List.mem_cons.mp hv).elim (fun e => by rw [e]; exact rf_cat) (h.1 v), hl⟩
theorem c1s_sum {st : List Value} (h : c1s st) : (st.map fun v => v.category).sum ≤ 8 := by
  have key : ∀ l : List Value, (∀ v ∈ l, v.category = 1) → (l.map fun v => v.category).sum = l.length := by
    intro l
    induction l with
    | nil => intro _; rfl
    | cons a l ih =>
      intro h
      rw [List.map_cons, List.sum_cons, ih (fun v hv => h v (List.mem_cons_of_mem _ hv)), h a List.mem_cons_self, List.length_cons, Nat.add_comm]
  rw [key st h.1]
  exact h.2
theorem cat_i {x : Int} : (Value.int (ii x)).category = 1 := rfl
section JC
variable {T : TT} {E : EE} {K : KT} {w w' : World} {H0 : Heap} {pc idx : Nat} {L : List (Option Value)} {st vs : List Value} {cc bytes : ByteArray} {own : String} {rm rm' : Room} {y : MethodName} {maxL np : Nat} {ret : Option FieldType} {b κ : Nat}
/-- the words of a callee, and its room -/
theorem call_core {p : Program} {e : Env} {l : Launch} {R : Room} {s : State} {m : MethodId} {args : Array Value} {below : List Frame} {meth : Method} {cd : Code} {cells slots : Nat} {Q : State → Prop} (o : Ok (p, l, e, R, s, m, args, below, meth, cd, cells, slots, Q) cc own rm) (ml : ML y bytes maxL ret np) (hrm : rmLe rm' rm maxL) :
    (rm'.cells = 0 ∧ rm'.slots = 0 ∧ rm'.frames + 1 ≤ R.frames ∧ 8 + (maxL + 11) + rm'.locals ≤ R.locals ∧ (∀ w ∈ WS y bytes maxL ret, ∀ (a' : Array Value) (U : State), s.WarmedH U.vm → w.before a' U = true) ∧ Cond.code y bytes maxL ret ∈ WS y bytes maxL ret) ∧
    (Cond.code y bytes maxL ret).before args s = true ∧ (Cond.initialized y.cls).before args s = true ∧ (y.cls ≠ "java/lang/invoke/MethodHandle" ∧ y.cls ≠ "java/lang/invoke/VarHandle") ∧ (∀ sig, parseMethodDescriptor y.desc = some sig → np = sig.parameters.length) := by
  obtain ⟨m1, m2, m3, m4, m5⟩ := ml
  obtain ⟨r1, r2, r3, r4⟩ := hrm
  have hR : R = rm := o.2.2.2.2.2
  have hts := o.2.2.2.1
  refine ⟨⟨r1, r2, by rw [hR]; exact r3, by rw [hR]; exact r4, pay_in hts (goodIn_WS m1), List.mem_cons_self⟩, hts _ m1, hts _ m2, ⟨m3, m4⟩, fun sig h => ?_⟩
  rw [h] at m5
  exact (Option.some.inj m5).symm
theorem AA_sub {H H0 : Heap} (h : H0.size ≤ H.size) : ∀ q, AA T E H.size q → AA T E H0.size q := fun q h1 => h1.elim Or.inl (fun h2 => Or.inr (Nat.le_trans h h2))
theorem run_V {p : Program} {e : Env} {l : Launch} {R : Room} {s : State} {m : MethodId} {args : Array Value} {below : List Frame} {meth : Method} {cd : Code} {cells slots : Nat} {Q : State → Prop} {H : Heap} {locs : List Loc} {ls : Array Slot} {Qc : Array Value → State → Outcome → State → Prop}
    (o : Ok (p, l, e, R, s, m, args, below, meth, cd, cells, slots, Q) cc own rm) (g : Gd T E (p, l, e, R, s, m, args, below, meth, cd, cells, slots, Q)) (d : decode cc pc = .ok (.invokevirtual idx, 3)) (lk : LK own idx y) (ml : ML y bytes maxL ret np) (vl : VL y) (hrm : rmLe rm' rm maxL)
    (hM : Met l y (WS y bytes maxL ret) rm' (va_Pc (rf E.ad b :: vs) (PreA T E w H.size)) Qc 0 0 (AA T E H.size)) (hb : T.kd b = κ) (hcn : (T.cl[κ - 1]?).map (fun q => q.1) = some y.cls) (hκ : 0 < κ ∧ κ < 40) (hn : vs.length = np) (hst : c1s st) (hcl : cells ≤ R.cells) (hsl : slots ≤ R.slots)
    (hW : WdT T E H0 w H locs) (hl : hasL cd ls L) : va_Run p l e R s m args below meth cd H locs cells slots 0 0 (F0 m pc ls (vs.reverse ++ rf E.ad b :: st)) st (Qc (Value.ref (E.ad b) :: vs).toArray) (AA T E H.size) := by
  obtain ⟨hR, hF, hP, hS⟩ := hW
  obtain ⟨gK, gI, gT, gN⟩ := g
  obtain ⟨c0, c1⟩ := gT b (by omega)
  rw [rf_p c0] at hM ⊢
  have he := wsl_get (E := E) (w := w) c0 c1
  rw [cel_obj hb hκ.2] at he
  obtain ⟨q, hq, hq1⟩ := Option.map_eq_some_iff.mp hcn
  have hrv := va_recv gK hP hq he
  rw [hq1] at hrv
  obtain ⟨k1, k2, k3, k4, k5⟩ := call_core o ml hrm
  have hpre : PreV s H y.cls (E.ad b) (va_Pc (Value.ref (E.ad b) :: vs) (PreA T E w H.size)) vs := ⟨PreA_blind, hrv, fun U hU hW => ⟨rfl, by rw [hU], hR, hF, by rw [hU]; exact hP, va_K.moved hW.alike gK, gN.warm hW⟩⟩
  have hml : cd.maxLocals = cd.maxLocals := rfl
  rcases lk with h | ⟨host, h⟩
  · exact va_runV (Ts := GW) (nL := cd.maxLocals) (As := vs) (rest := st) ⟨o.1, o.2.1, rfl, o.2.2.1, o.2.2.2.1⟩ hM ⟨⟨k1.1, k1.2.1, k1.2.2.1, k1.2.2.2.1, k1.2.2.2.2.1, k1.2.2.2.2.2, k2, k3, k4, k5, o.2.2.2.1 _ h⟩, o.2.2.2.1 _ vl.1, o.2.2.2.1 _ vl.2⟩ hpre rfl hn hl.1 rfl (lv_room (c1s_sum hst)) d ⟨hcl, hsl⟩
  · exact va_runVN (Ts := GW) (nL := cd.maxLocals) (As := vs) (rest := st) ⟨o.1, o.2.1, rfl, o.2.2.1, o.2.2.2.1⟩ hM ⟨⟨k1, k2, k3, k4, k5, va_Nw.use rfl (gN.2.1 _ _ _ _ h)⟩, o.2.2.2.1 _ vl.1, o.2.2.2.1 _ vl.2⟩ hpre rfl hn hl.1 rfl (lv_room (c1s_sum hst)) d ⟨hcl, hsl⟩
theorem run_S {p : Program} {e : Env} {l : Launch} {R : Room} {s : State} {m : MethodId} {args : Array Value} {below : List Frame} {meth : Method} {cd : Code} {cells slots : Nat} {Q : State → Prop} {H : Heap} {locs : List Loc} {ls : Array Slot} {Qc : Array Value → State → Outcome → State → Prop}
    (o : Ok (p, l, e, R, s, m, args, below, meth, cd, cells, slots, Q) cc own rm) (g : Gd T E (p, l, e, R, s, m, args, below, meth, cd, cells, slots, Q)) (d : decode cc pc = .ok (.invokestatic idx, 3)) (lk : LK own idx y) (ml : ML y bytes maxL ret np) (sl : Cond.static y ∈ GW) (hrm : rmLe rm' rm maxL)
    (hM : Met l y (WS y bytes maxL ret) rm' (va_Pc vs (PreA T E w H.size)) Qc 0 0 (AA T E H.size)) (hn : vs.length = np) (hst : c1s st) (hcl : cells ≤ R.cells) (hsl : slots ≤ R.slots)
    (hW : WdT T E H0 w H locs) (hl : hasL cd ls L) : va_Run p l e R s m args below meth cd H locs cells slots 0 0 (F0 m pc ls (vs.reverse ++ st)) st (Qc vs.toArray) (AA T E H.size) := by
  obtain ⟨hR, hF, hP, hS⟩ := hW
  obtain ⟨gK, gI, gT, gN⟩ := g
  obtain ⟨k1, k2, k3, k4, k5⟩ := call_core o ml hrm
  have hpre : PreS s H (va_Pc vs (PreA T E w H.size)) vs := ⟨PreA_blind, fun U hU hW => ⟨rfl, by rw [hU], hR, hF, by rw [hU]; exact hP, va_K.moved hW.alike gK, gN.warm hW⟩⟩
  rcases lk with h | ⟨host, h⟩
  · exact va_runS (Ts := GW) (nL := cd.maxLocals) (As := vs) (rest := st) ⟨o.1, o.2.1, rfl, o.2.2.1, o.2.2.2.1⟩ hM ⟨⟨k1.1, k1.2.1, k1.2.2.1, k1.2.2.2.1, k1.2.2.2.2.1, k1.2.2.2.2.2, k2, k3, k4, k5, o.2.2.2.1 _ h⟩, o.2.2.2.1 _ sl⟩ hpre rfl hn hl.1 rfl (lv_room (c1s_sum hst)) d ⟨hcl, hsl⟩
  · exact va_runSN (Ts := GW) (nL := cd.maxLocals) (As := vs) (rest := st) ⟨o.1, o.2.1, rfl, o.2.2.1, o.2.2.2.1⟩ hM ⟨⟨k1, k2, k3, k4, k5, va_Nw.use rfl (gN.2.1 _ _ _ _ h)⟩, o.2.2.2.1 _ sl, trivial⟩ hpre rfl hn hl.1 rfl (lv_room (c1s_sum hst)) d ⟨hcl, hsl⟩
/-- no new cells: K's room has them -/
def KR (K : KT) : Prop := K.2.2.2.2.2.2.2.2.2.2.1 ≤ K.2.2.2.1.cells ∧ K.2.2.2.2.2.2.2.2.2.2.2.1 ≤ K.2.2.2.1.slots
theorem St_Wd {p : Program} {e : Env} {l : Launch} {R : Room} {s : State} {m : MethodId} {args : Array Value} {below : List Frame} {meth : Method} {cd : Code} {cells slots : Nat} {Q : State → Prop} {t : State} {H1 : Heap} {locs1 : List Loc} (h : StA T E w' t) (ht : t.heap = H1) (hS : va_S (AA T E H0.size) H0 H1 locs1) : WdT T E H0 w' H1 locs1 := ⟨h.1, h.2.1, by rw [← ht]; exact h.2.2.1, hS⟩
theorem J_vI {r : Int} {stk : List Value} (o : Ok K cc own rm) (g : Gd T E K) (kr : KR K) (d : decode cc pc = .ok (.invokevirtual idx, 3)) (lk : LK own idx y) (ml : ML y bytes maxL ret np) (vl : VL y) (hrm : rmLe rm' rm maxL)
    (hM : ConI T E (kL K) y (WS y bytes maxL ret) rm' (rf E.ad b :: vs) w w' r) (hb : T.kd b = κ) (hcn : (T.cl[κ - 1]?).map (fun q => q.1) = some y.cls) (hκ : 0 < κ ∧ κ < 40) (hn : vs.length = np) (hk : stk = vs.reverse ++ rf E.ad b :: st) (hst : c1s st)
    (k : R32 r → Jj K (WdT T E H0) w' (pc + 3) L (.int (ii r) :: st)) : Jj K (WdT T E H0) w pc L stk := by
  subst hk
  obtain ⟨p, l, e, R, s, m, args, below, meth, cd, cells, slots, Q⟩ := K
  intro H locs ls hW hl hc
  refine va_calli (run_V o g d lk ml vl hrm (hM H.size) hb hcn hκ hn hst kr.1 kr.2 hW hl) hW.2.2.2 (fun q _ h => AA_sub hW.2.2.2.1 q h) (AA_sub hW.2.2.2.1) (fun v u t H1 locs1 ht hvm hv hB hz1 hk1 hS1 => ?_)
  have hr : R32 r := by rw [← hv]; exact R_toInt v
  have hv2 : v = ii r := by rw [← hv]; exact (toInt_ii v).symm
  rw [hv2]
  exact k hr H1 locs1 ls (St_Wd (p := p) (e := e) (l := l) (R := R) (s := s) (m := m) (args := args) (below := below) (meth := meth) (cd := cd) (cells := cells) (slots := slots) (Q := Q) hB ht hS1) hl hc
theorem J_vV {stk : List Value} (o : Ok K cc own rm) (g : Gd T E K) (kr : KR K) (d : decode cc pc = .ok (.invokevirtual idx, 3)) (lk : LK own idx y) (ml : ML y bytes maxL ret np) (vl : VL y) (hrm : rmLe rm' rm maxL)
    (hM : ConV T E (kL K) y (WS y bytes maxL ret) rm' (rf E.ad b :: vs) w w') (hb : T.kd b = κ) (hcn : (T.cl[κ - 1]?).map (fun q => q.1) = some y.cls) (hκ : 0 < κ ∧ κ < 40) (hn : vs.length = np) (hk : stk = vs.reverse ++ rf E.ad b :: st) (hst : c1s st)
    (k : Jj K (WdT T E H0) w' (pc + 3) L st) : Jj K (WdT T E H0) w pc L stk := by
  subst hk
  obtain ⟨p, l, e, R, s, m, args, below, meth, cd, cells, slots, Q⟩ := K
  intro H locs ls hW hl hc
  refine va_callv (run_V o g d lk ml vl hrm (hM H.size) hb hcn hκ hn hst kr.1 kr.2 hW hl) hW.2.2.2 (fun q _ h => AA_sub hW.2.2.2.1 q h) (AA_sub hW.2.2.2.1) (fun u t H1 locs1 ht hvm hv hB hz1 hk1 hS1 => ?_)
  exact k H1 locs1 ls (St_Wd (p := p) (e := e) (l := l) (R := R) (s := s) (m := m) (args := args) (below := below) (meth := meth) (cd := cd) (cells := cells) (slots := slots) (Q := Q) hB ht hS1) hl hc
theorem J_vR {r : Nat} {stk : List Value} (o : Ok K cc own rm) (g : Gd T E K) (kr : KR K) (d : decode cc pc = .ok (.invokevirtual idx, 3)) (lk : LK own idx y) (ml : ML y bytes maxL ret np) (vl : VL y) (hrm : rmLe rm' rm maxL)
    (hM : ConR T E (kL K) y (WS y bytes maxL ret) rm' (rf E.ad b :: vs) w w' r) (hb : T.kd b = κ) (hcn : (T.cl[κ - 1]?).map (fun q => q.1) = some y.cls) (hκ : 0 < κ ∧ κ < 40) (hn : vs.length = np) (hk : stk = vs.reverse ++ rf E.ad b :: st) (hst : c1s st)
    (k : Jj K (WdT T E H0) w' (pc + 3) L (rf E.ad r :: st)) : Jj K (WdT T E H0) w pc L stk := by
  subst hk
  obtain ⟨p, l, e, R, s, m, args, below, meth, cd, cells, slots, Q⟩ := K
  intro H locs ls hW hl hc
  refine va_callq (run_V o g d lk ml vl hrm (hM H.size) hb hcn hκ hn hst kr.1 kr.2 hW hl) hW.2.2.2 (fun q _ h => AA_sub hW.2.2.2.1 q h) (AA_sub hW.2.2.2.1) (fun v u t H1 locs1 ht hvm hv hB hz1 hk1 hS1 => ?_)
  rw [hv, va_rf_rq]
  exact k H1 locs1 ls (St_Wd (p := p) (e := e) (l := l) (R := R) (s := s) (m := m) (args := args) (below := below) (meth := meth) (cd := cd) (cells := cells) (slots := slots) (Q := Q) hB ht hS1) hl hc
theorem J_sI {r : Int} {stk : List Value} (o : Ok K cc own rm) (g : Gd T E K) (kr : KR K) (d : decode cc pc = .ok (.invokestatic idx, 3)) (lk : LK own idx y) (ml : ML y bytes maxL ret np) (sl : Cond.static y ∈ GW) (hrm : rmLe rm' rm maxL)
    (hM : ConI T E (kL K) y (WS y bytes maxL ret) rm' vs w w' r) (hn : vs.length = np) (hk : stk = vs.reverse ++ st) (hst : c1s st)
    (k : R32 r → Jj K (WdT T E H0) w' (pc + 3) L (.int (ii r) :: st)) : Jj K (WdT T E H0) w pc L stk := by
  subst hk
  obtain ⟨p, l, e, R, s, m, args, below, meth, cd, cells, slots, Q⟩ := K
  intro H locs ls hW hl hc
  refine va_calli (run_S o g d lk ml sl hrm (hM H.size) hn hst kr.1 kr.2 hW hl) hW.2.2.2 (fun q _ h => AA_sub hW.2.2.2.1 q h) (AA_sub hW.2.2.2.1) (fun v u t H1 locs1 ht hvm hv hB hz1 hk1 hS1 => ?_)
  have hr : R32 r := by rw [← hv]; exact R_toInt v
  have hv2 : v = ii r := by rw [← hv]; exact (toInt_ii v).symm
  rw [hv2]
  exact k hr H1 locs1 ls (St_Wd (p := p) (e := e) (l := l) (R := R) (s := s) (m := m) (args := args) (below := below) (meth := meth) (cd := cd) (cells := cells) (slots := slots) (Q := Q) hB ht hS1) hl hc
theorem J_mmax {x z : Int} {Wd : World → Heap → List Loc → Prop} (o : Ok K cc own rm) (kr : KR K) (d : decode cc pc = .ok (.invokestatic idx, 3)) (h1 : Cond.methodLink own idx Lib.Math.max.name ∈ GW) (h2 : Cond.static Lib.Math.max.name ∈ GW) (h3 : Cond.initialized "java/lang/Math" ∈ GW) (h4 : Cond.code Lib.Math.max.name Lib.Math.max.code 2 (some .int) ∈ GW) (hf : 1 ≤ rm.frames ∧ 21 ≤ rm.locals) (hx : R32 x) (hz : R32 z) (hst : c1s st)
    (k : Jj K Wd w (pc + 3) L (.int (ii (imax x z)) :: st)) : Jj K Wd w pc L (.int (ii z) :: .int (ii x) :: st) := by
  obtain ⟨p, l, e, R, s, m, args, below, meth, cd, cells, slots, Q⟩ := K
  intro H locs ls hW hl hc
  have hR : R = rm := o.2.2.2.2.2
  have hs := c1s_sum hst
  refine va_mmax o.1 o.2.1 hl.1.symm o.2.2.1 (o.2.2.2.1 _ h1) (o.2.2.2.1 _ h2) (o.2.2.2.1 _ h3) (o.2.2.2.1 _ h4) (by rw [hR]; exact hf.1) (by rw [hR]; exact Nat.le_trans (by omega) hf.2) kr.1 kr.2 d ?_
  have e : (if ii x < ii z then ii z else ii x) = ii (imax x z) := by
    unfold imax
    by_cases q : z ≤ x
    · rw [if_pos q, if_neg (by rw [ii_lt hx hz]; omega)]
    · rw [if_neg q, if_pos (by rw [ii_lt hx hz]; omega)]
  rw [e]
  exact k H locs ls hW hl hc
theorem J_mmin {x z : Int} {Wd : World → Heap → List Loc → Prop} (o : Ok K cc own rm) (kr : KR K) (d : decode cc pc = .ok (.invokestatic idx, 3)) (h1 : Cond.methodLink own idx Lib.Math.min.name ∈ GW) (h2 : Cond.static Lib.Math.min.name ∈ GW) (h3 : Cond.initialized "java/lang/Math" ∈ GW) (h4 : Cond.code Lib.Math.min.name Lib.Math.min.code 2 (some .int) ∈ GW) (hf : 1 ≤ rm.frames ∧ 21 ≤ rm.locals) (hx : R32 x) (hz : R32 z) (hst : c1s st)
    (k : Jj K Wd w (pc + 3) L (.int (ii (imin x z)) :: st)) : Jj K Wd w pc L (.int (ii z) :: .int (ii x) :: st) := by
  obtain ⟨p, l, e, R, s, m, args, below, meth, cd, cells, slots, Q⟩ := K
  intro H locs ls hW hl hc
  have hR : R = rm := o.2.2.2.2.2
  have hs := c1s_sum hst
  have h := k H locs ls hW hl hc
  have e : ∀ u v : Int32, u = v → W p l e R s m args below meth cd H locs cells slots Q (F0 m (pc + 3) ls (.int u :: st)) → W p l e R s m args below meth cd H locs cells slots Q (F0 m (pc + 3) ls (.int v :: st)) := fun u v q h => q ▸ h
  refine va_mmin o.1 o.2.1 hl.1.symm o.2.2.1 (o.2.2.2.1 _ h1) (o.2.2.2.1 _ h2) (o.2.2.2.1 _ h3) (o.2.2.2.1 _ h4) (by rw [hR]; exact hf.1) (by rw [hR]; exact Nat.le_trans (by omega) hf.2) kr.1 kr.2 d (e _ _ ?_ h)
  unfold imin
  by_cases q : x ≤ z
  · rw [if_pos q]
    by_cases q2 : z < x
    · omega
    · have := ii_lt hz hx
      have := ii_le hx hz
      first
        | rw [if_neg (by rw [ii_lt hz hx]; omega)]
        | (by_cases q3 : x < z
           · rw [if_pos (by rw [ii_lt hx hz]; exact q3)]
           · rw [if_neg (by rw [ii_lt hx hz]; exact q3), show x = z by omega])
  · rw [if_neg q]
    first
      | rw [if_pos (by rw [ii_lt hz hx]; omega)]
      | rw [if_neg (by rw [ii_lt hx hz]; omega)]
/-- what a return needs -/
def RetI (T : TT) (E : EE) (K : KT) (H0 : Heap) (cc : ByteArray) (w' : World) (r : Int) : Prop := ∀ (pc : Nat) (L : List (Option Value)), R32 r → decode cc pc = .ok (.ireturn, 1) → Jj K (WdT T E H0) w' pc L [.int (ii r)]
def RetZ (T : TT) (E : EE) (K : KT) (H0 : Heap) (cc : ByteArray) (w' : World) (r : Int) : Prop := ∀ (pc : Nat) (L : List (Option Value)), r = 0 ∨ r = 1 → decode cc pc = .ok (.ireturn, 1) → Jj K (WdT T E H0) w' pc L [.int (ii r)]
def RetV (T : TT) (E : EE) (K : KT) (H0 : Heap) (cc : ByteArray) (w' : World) : Prop := ∀ (pc : Nat) (L : List (Option Value)), decode cc pc = .ok (.return_, 1) → Jj K (WdT T E H0) w' pc L []
def RetR (T : TT) (E : EE) (K : KT) (H0 : Heap) (cc : ByteArray) (w' : World) (r : Nat) : Prop := ∀ (pc : Nat) (L : List (Option Value)), decode cc pc = .ok (.areturn, 1) → Jj K (WdT T E H0) w' pc L [rf E.ad r]
def entL (vs : List Value) (n : Nat) : List (Option Value) := vs.map some ++ List.replicate (n - vs.length) none
theorem lv_args_1 : ∀ (vs : List Value) (k i : Nat) (v : Value), (∀ v ∈ vs, v.category = 1) → vs[i]? = some v → (k + i, v) ∈ lv_args k vs
  | [], _, i, v, _, h => by simp at h
  | a :: vs, k, i, v, hc, h => by
    have ha := hc a List.mem_cons_self
    unfold lv_args
    rw [if_neg (by omega)]
    cases i with
    | zero => rw [List.getElem?_cons_zero] at h; cases h; exact List.mem_cons_self
    | succ i =>
      rw [List.getElem?_cons_succ] at h
      have := lv_args_1 vs (k + 1) i v (fun v hv => hc v (List.mem_cons_of_mem _ hv)) h
      rw [show k + 1 + i = k + (i + 1) by omega] at this
      exact List.mem_cons_of_mem _ this
theorem entL_get {vs : List Value} {n i : Nat} {v : Value} (h : (entL vs n)[i]? = some (some v)) : vs[i]? = some v := by
  unfold entL at h
  by_cases hi : i < vs.length
  · rw [List.getElem?_append_left (by rw [List.length_map]; exact hi), List.getElem?_map] at h
    cases hx : vs[i]? with
    | none => rw [hx] at h; cases h
    | some x => rw [hx] at h; cases h; rfl
  · rw [List.getElem?_append_right (by rw [List.length_map]; omega)] at h
    have := List.mem_of_getElem? h
    rw [List.mem_replicate] at this
    cases this.2
theorem ent_has {vs : List Value} {n : Nat} {cd : Code} (hn : vs.length ≤ n) (hm : cd.maxLocals = n) (hc : ∀ v ∈ vs, v.category = 1) :
    hasL cd ((lg_sl vs ++ List.replicate (n - (lg_sl vs).length) Slot.unset).toArray) (entL vs n) ∧ ∀ q ∈ ascL (entL vs n), q.2.category = 1 := by
  have hlen : ∀ l : List Value, (∀ v ∈ l, v.category = 1) → (lg_sl l).length = l.length := by
    intro l
    induction l with
    | nil => intro _; rfl
    | cons a l ih =>
      intro h
      have ha := h a List.mem_cons_self
      have h2 := ih (fun v hv => h v (List.mem_cons_of_mem _ hv))
      unfold lg_sl at h2 ⊢
      rw [List.flatMap_cons, if_neg (by omega), List.length_append, h2]
      rw [List.length_cons, List.length_cons, List.length_nil]
      omega
  have h1 := lv_entry vs (n := n) (by rw [hlen vs hc]; exact hn)
  refine ⟨hasL.of (by rw [hm]; exact h1) (by unfold entL; rw [List.length_append, List.length_map, List.length_replicate, hm]; omega) (fun i v hv => ?_), fun q hq => ?_⟩
  · have := lv_args_1 vs 0 i v hc (entL_get hv)
    rwa [Nat.zero_add] at this
  · exact hc _ (List.mem_of_getElem? (entL_get (mem_ascL.mp hq)))
/-- K of a method: begun with this world -/
def Kof (T : TT) (E : EE) (K : KT) (l : Launch) (cc : ByteArray) (own : String) (rm : Room) : Prop := Ok K cc own rm ∧ Gd T E K ∧ KR K ∧ kL K = l
theorem con_I (hy : plainName y.cls = true) (hret : ret = some .int) (hl : vs.length ≤ maxL) (hcv : ∀ v ∈ vs, v.category = 1) (hrm : rm.cells = 0 ∧ rm.slots = 0) (hI : Inj T E) (hT : Tn T) {l : Launch} {r : Int}
    (h : ∀ (K : KT) (H0 : Heap), Kof T E K l bytes y.cls rm → RetI T E K H0 bytes w' r → Jj K (WdT T E H0) w 0 (entL vs maxL) []) : ConI T E l y (WS y bytes maxL ret) rm vs w w' r := by
  intro sz
  refine Met.ofW (cc := bytes) (maxL := maxL) (ret := ret) hy rfl ?_
  intro p e s m args below meth c s₁ B hml hv
  obtain ⟨rfl, hsz, hR, hF, hP, hK, hN⟩ := hv
  have hts := atoms_spec (ws := WS y bytes maxL ret) B.pre
  have hown : s.vm.findClass y.cls = some m.cls := findClass_of_methodNamed B.named
  subst hsz
  rw [lg_entry_eq]
  obtain ⟨e1, e2⟩ := ent_has hl hml hcv
  refine h (p, l, e, (headSpec (WS y bytes maxL ret) rm).room, s, m, vs.toArray, below, meth, c, 0, 0, _) s.heap ⟨⟨B.exec, B.bytes, hown, fun w hw => hts w (List.mem_cons_of_mem _ hw), B.notSynchronized, rfl⟩, ⟨hK, hI, hT, hN⟩, ⟨Nat.zero_le _, Nat.zero_le _⟩, rfl⟩ ?_ s.heap [] _ ⟨hR, hF, hP, va_S.rf⟩ e1 e2
  intro pc L hx d H locs ls hW hl hc
  have hr := B.returns
  rw [hret] at hr
  have hlocks := B.notSynchronized
  exact W.iret (v := ii r) B.exec B.bytes hr (fun t ht hWm => ⟨⟨ii r, (), rfl, ii_toInt hx, hW.1, hW.2.1, by rw [ht]; exact hW.2.2.1, va_K.moved hWm.alike hK, hN.warm hWm⟩, hW.2.2.2.F ht⟩) hW.2.2.2.2.2 d
theorem con_Z (hy : plainName y.cls = true) (hret : ret = some .boolean) (hl : vs.length ≤ maxL) (hcv : ∀ v ∈ vs, v.category = 1) (hrm : rm.cells = 0 ∧ rm.slots = 0) (hI : Inj T E) (hT : Tn T) {l : Launch} {r : Int}
    (h : ∀ (K : KT) (H0 : Heap), Kof T E K l bytes y.cls rm → RetZ T E K H0 bytes w' r → Jj K (WdT T E H0) w 0 (entL vs maxL) []) : ConI T E l y (WS y bytes maxL ret) rm vs w w' r := by
  intro sz
  refine Met.ofW (cc := bytes) (maxL := maxL) (ret := ret) hy rfl ?_
  intro p e s m args below meth c s₁ B hml hv
  obtain ⟨rfl, hsz, hR, hF, hP, hK, hN⟩ := hv
  have hts := atoms_spec (ws := WS y bytes maxL ret) B.pre
  have hown : s.vm.findClass y.cls = some m.cls := findClass_of_methodNamed B.named
  subst hsz
  rw [lg_entry_eq]
  obtain ⟨e1, e2⟩ := ent_has hl hml hcv
  refine h (p, l, e, (headSpec (WS y bytes maxL ret) rm).room, s, m, vs.toArray, below, meth, c, 0, 0, _) s.heap ⟨⟨B.exec, B.bytes, hown, fun w hw => hts w (List.mem_cons_of_mem _ hw), B.notSynchronized, rfl⟩, ⟨hK, hI, hT, hN⟩, ⟨Nat.zero_le _, Nat.zero_le _⟩, rfl⟩ ?_ s.heap [] _ ⟨hR, hF, hP, va_S.rf⟩ e1 e2
  intro pc L hb d H locs ls hW hl hc
  have hx : R32 r := by unfold R32; omega
  have hr := B.returns
  rw [hret] at hr
  have hlocks := B.notSynchronized
  exact W.zret (v := ii r) B.exec B.bytes hr (by rcases hb with rfl | rfl <;> decide) (fun t ht hWm => ⟨⟨ii r, (), rfl, ii_toInt hx, hW.1, hW.2.1, by rw [ht]; exact hW.2.2.1, va_K.moved hWm.alike hK, hN.warm hWm⟩, hW.2.2.2.F ht⟩) hW.2.2.2.2.2 d
theorem con_V (hy : plainName y.cls = true) (hret : ret = none) (hl : vs.length ≤ maxL) (hcv : ∀ v ∈ vs, v.category = 1) (hrm : rm.cells = 0 ∧ rm.slots = 0) (hI : Inj T E) (hT : Tn T) {l : Launch}
    (h : ∀ (K : KT) (H0 : Heap), Kof T E K l bytes y.cls rm → RetV T E K H0 bytes w' → Jj K (WdT T E H0) w 0 (entL vs maxL) []) : ConV T E l y (WS y bytes maxL ret) rm vs w w' := by
  intro sz
  refine Met.ofW (cc := bytes) (maxL := maxL) (ret := ret) hy rfl ?_
  intro p e s m args below meth c s₁ B hml hv
  obtain ⟨rfl, hsz, hR, hF, hP, hK, hN⟩ := hv
  have hts := atoms_spec (ws := WS y bytes maxL ret) B.pre
  have hown : s.vm.findClass y.cls = some m.cls := findClass_of_methodNamed B.named
  subst hsz
  rw [lg_entry_eq]
  obtain ⟨e1, e2⟩ := ent_has hl hml hcv
  refine h (p, l, e, (headSpec (WS y bytes maxL ret) rm).room, s, m, vs.toArray, below, meth, c, 0, 0, _) s.heap ⟨⟨B.exec, B.bytes, hown, fun w hw => hts w (List.mem_cons_of_mem _ hw), B.notSynchronized, rfl⟩, ⟨hK, hI, hT, hN⟩, ⟨Nat.zero_le _, Nat.zero_le _⟩, rfl⟩ ?_ s.heap [] _ ⟨hR, hF, hP, va_S.rf⟩ e1 e2
  intro pc L d H locs ls hW hl hc
  have hr := B.returns
  rw [hret] at hr
  have hlocks := B.notSynchronized
  exact W.vret B.exec B.bytes hr (fun t ht hWm => ⟨⟨(), rfl, trivial, hW.1, hW.2.1, by rw [ht]; exact hW.2.2.1, va_K.moved hWm.alike hK, hN.warm hWm⟩, hW.2.2.2.F ht⟩) hW.2.2.2.2.2 d
theorem con_R {Cn : String} (hy : plainName y.cls = true) (hret : ret = some (.object Cn)) (hl : vs.length ≤ maxL) (hcv : ∀ v ∈ vs, v.category = 1) (hrm : rm.cells = 0 ∧ rm.slots = 0) (hI : Inj T E) (hT : Tn T) {l : Launch} {r : Nat}
    (h : ∀ (K : KT) (H0 : Heap), Kof T E K l bytes y.cls rm → RetR T E K H0 bytes w' r → Jj K (WdT T E H0) w 0 (entL vs maxL) []) : ConR T E l y (WS y bytes maxL ret) rm vs w w' r := by
  intro sz
  refine Met.ofW (cc := bytes) (maxL := maxL) (ret := ret) hy rfl ?_
  intro p e s m args below meth c s₁ B hml hv
  obtain ⟨rfl, hsz, hR, hF, hP, hK, hN⟩ := hv
  have hts := atoms_spec (ws := WS y bytes maxL ret) B.pre
  have hown : s.vm.findClass y.cls = some m.cls := findClass_of_methodNamed B.named
  subst hsz
  rw [lg_entry_eq]
  obtain ⟨e1, e2⟩ := ent_has hl hml hcv
  refine h (p, l, e, (headSpec (WS y bytes maxL ret) rm).room, s, m, vs.toArray, below, meth, c, 0, 0, _) s.heap ⟨⟨B.exec, B.bytes, hown, fun w hw => hts w (List.mem_cons_of_mem _ hw), B.notSynchronized, rfl⟩, ⟨hK, hI, hT, hN⟩, ⟨Nat.zero_le _, Nat.zero_le _⟩, rfl⟩ ?_ s.heap [] _ ⟨hR, hF, hP, va_S.rf⟩ e1 e2
  intro pc L d H locs ls hW hl hc
  have hr := B.returns
  rw [hret] at hr
  have hlocks := B.notSynchronized
  exact W.aret (v := rf E.ad r) B.exec B.bytes hr (Or.inl ⟨_, rfl⟩) (by
    by_cases q : r = 0
    · subst q; exact Or.inl rfl
    · rw [rf_p q]; exact Or.inr ⟨_, rfl⟩) (fun t ht hWm => ⟨⟨rq E.ad r, (), by rw [va_rf_rq], rfl, hW.1, hW.2.1, by rw [ht]; exact hW.2.2.1, va_K.moved hWm.alike hK, hN.warm hWm⟩, hW.2.2.2.F ht⟩) hW.2.2.2.2.2 d
end JC
