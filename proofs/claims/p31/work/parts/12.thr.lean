/-! METHODS THAT THROW: the words of a throw, the statics; contracts that return or throw; the row SERVED -/
def xName (n : Nat) : String := if n = 1 then "java/lang/IndexOutOfBoundsException" else if n = 2 then "java/lang/IllegalArgumentException" else "java/lang/IllegalStateException"
def xIk (n : Nat) : Nat := if n = 1 then 92 else if n = 2 then 103 else 112
def xIc (n : Nat) : Nat := if n = 1 then 96 else if n = 2 then 107 else 116
def xSup : List String := ["java/lang/RuntimeException", "java/lang/Exception"]
def xDe (c : String) : Cond := Cond.declares ⟨c, "<init>", "(Ljava/lang/String;)V"⟩
def xOther : List Cond := [Cond.castable (xName 1) (xName 1), Cond.castable (xName 2) (xName 2), Cond.castable (xName 3) (xName 3), xDe "java/lang/RuntimeException", xDe "java/lang/Exception", xDe "java/lang/Throwable"]
def xWds (n : Nat) : List Cond := Cond.classLink RX10 (xIk n) (xName n) :: Cond.initialized (xName n) :: vx_atS RX10 (xIc n) (xName n) xSup
theorem xOther_in : ∀ w ∈ xOther, w ∈ lw_tbl := by
  have h : xOther.all (fun w => lw_tbl.any (fun v => decide (v = w))) = true := by decide +kernel
  intro w hw
  obtain ⟨v, hv, e⟩ := List.any_eq_true.mp (List.all_eq_true.mp h w hw)
  rw [← of_decide_eq_true e]
  exact hv
theorem xWds_in {n : Nat} (h : (xWds n).all (fun w => vx_ot w && (lw_tbl.any (fun v => decide (v = w)) && goodWord w || xOther.any (fun v => decide (v = w)))) = true) : ∀ w ∈ xWds n, vx_ot w = true ∧ (w ∈ GW ∨ w ∈ xOther) := by
  intro w hw
  have h1 := List.all_eq_true.mp h w hw
  rw [Bool.and_eq_true] at h1
  obtain ⟨h1, h2⟩ := h1
  refine ⟨h1, ?_⟩
  rcases Bool.or_eq_true _ _ ▸ h2 with h3 | h3
  · rw [Bool.and_eq_true] at h3
    obtain ⟨v, hv, e⟩ := List.any_eq_true.mp h3.1
    rw [← of_decide_eq_true e] at h3 ⊢
    exact Or.inl (inGW hv h3.2)
  · obtain ⟨v, hv, e⟩ := List.any_eq_true.mp h3
    rw [← of_decide_eq_true e]
    exact Or.inr hv
theorem xW1 : ∀ w ∈ xWds 1, vx_ot w = true ∧ (w ∈ GW ∨ w ∈ xOther) := xWds_in (by decide +kernel)
theorem xW2 : ∀ w ∈ xWds 2, vx_ot w = true ∧ (w ∈ GW ∨ w ∈ xOther) := xWds_in (by decide +kernel)
theorem xW3 : ∀ w ∈ xWds 3, vx_ot w = true ∧ (w ∈ GW ∨ w ∈ xOther) := xWds_in (by decide +kernel)
theorem xW {n : Nat} (h : n = 1 ∨ n = 2 ∨ n = 3) : ∀ w ∈ xWds n, vx_ot w = true ∧ (w ∈ GW ∨ w ∈ xOther) := by
  rcases h with rfl | rfl | rfl
  · exact xW1
  · exact xW2
  · exact xW3
def xStr : List (Nat × String) := [(94, "no such relation or kind"), (105, "columns or key out of range"), (114, "declared already"), (121, "no such relation"), (127, "value, cost, from or to out of range"), (133, "no more facts"), (150, "too many tuples"), (152, "no such fact"), (157, "dropped already"), (176, "no hour is to come"), (182, "term out of range"), (192, "no more such literals"), (198, "no such comparison"), (203, "no more literals"), (215, "no head, or not safe"), (220, "no more rules"), (229, "no strata, or too many tuples"), (234, "no literals, or not safe"), (239, "no more denials"), (247, "no such rule"), (256, "removed already"), (269, "no such hour"), (286, "no such relation or tuple"), (315, "value out of range"), (317, "it is in the model"), (346, "no such rule, or no such place")]
/-- what a throw needs of a state but its heap -/
def XS (U : State) : Prop := (∀ w ∈ xOther, va_Nw w U) ∧ ∀ q ∈ xStr, ∃ sa : Nat, vk_R RX10 q.1 q.2 sa U
theorem XS.warm {s U : State} (hW : s.WarmedH U.vm) (h : XS s) : XS U := by
  refine ⟨fun w hw => ?_, fun q hq => ?_⟩
  · have h1 := h.1 w hw
    simp only [xOther, List.mem_cons, List.not_mem_nil, or_false] at hw
    rcases hw with rfl | rfl | rfl | rfl | rfl | rfl
    · exact va_Nw.warmC hW h1
    · exact va_Nw.warmC hW h1
    · exact va_Nw.warmC hW h1
    · exact va_Nw.warmD hW h1
    · exact va_Nw.warmD hW h1
    · exact va_Nw.warmD hW h1
  · obtain ⟨sa, hs⟩ := h.2 q hq
    exact ⟨sa, vk_R.warm hW hs⟩
theorem XS.same {s U : State} (hv : s.vm = U.vm) (h : XS s) : XS U := XS.warm (hv ▸ State.WarmedH.refl s) h
def svI (j : Nat) : Int := ([138, 162, 140, 196, 176, 208] : List Int).getD j 0
def XV (sv : Nat) (A : Nat → Prop) (U : State) (H : Heap) : Prop := va_Z "Datalogmill" "SERVED" "[I" (.ref sv) A U H ∧ va_T .int sv 6 (fun j => .int (ii (svI j))) A U H
def XH (A : Nat → Prop) (U : State) (H : Heap) : Prop := vx_Zq Bundle.tN "UNASSIGNED_STACK" Bundle.steD A U H ∧ vx_Zq Bundle.tN "SUPPRESSED_SENTINEL" Bundle.listD A U H ∧ ∃ sv : Nat, XV sv A U H
theorem XH.moved {A : Nat → Prop} {u U : State} {H : Heap} (hvm : u.vm.Alike U.vm) (h : XH A u H) : XH A U H := by
  obtain ⟨h1, h2, sv, h3, h4⟩ := h
  exact ⟨vx_Zq.moved hvm h1, vx_Zq.moved hvm h2, sv, va_Z.moved hvm h3, va_T.moved hvm h4⟩
theorem XH.kept {A : Nat → Prop} {U : State} {H H1 : Heap} (h : XH A U H) (hq : ∀ a : Nat, a < H.size → ¬ A a → H1[a]? = H[a]?) : XH A U H1 := by
  obtain ⟨h1, h2, sv, h3, h4⟩ := h
  exact ⟨vx_Zq.kept h1 hq, vx_Zq.kept h2 hq, sv, va_Z.kept h3 hq, va_T.kept h4 hq⟩
theorem XH.narrow {A B : Nat → Prop} {U : State} {H : Heap} (h : XH A U H) (hAB : ∀ q, B q → A q) : XH B U H := by
  obtain ⟨h1, h2, sv, h3, h4⟩ := h
  exact ⟨vx_Zq.narrow h1 hAB, vx_Zq.narrow h2 hAB, sv, va_Z.narrow h3 hAB, va_T.narrow h4 hAB⟩
/-- .. at a method's frame -/
def GdX (T : TT) (E : EE) (K : KT) (H0 : Heap) : Prop := XS (kS K) ∧ XH (AA T E H0.size) (kS K) H0 ∧ (kS K).heap = H0
def KofX (T : TT) (E : EE) (K : KT) (H0 : Heap) (l : Launch) (cc : ByteArray) (own : String) (rm : Room) : Prop := Ok K cc own rm ∧ Gd T E K ∧ KR K ∧ kL K = l ∧ GdX T E K H0
def PreX (T : TT) (E : EE) (w : World) (sz : Nat) (U : State) : Prop := PreA T E w sz U ∧ XS U ∧ XH (AA T E sz) U U.heap
theorem PreX_blind {T : TT} {E : EE} {w : World} {sz : Nat} {vs : List Value} : FrameBlind (va_Pc vs (PreX T E w sz)) := fun a U g mk q => by
  obtain ⟨q0, ⟨q1, q2, q3, qP, qK, qN⟩, qX, qH⟩ := q
  exact ⟨q0, ⟨q1, q2, q3, qP, va_K.moved (u := U) (U := U.calling g mk a) (Vm.Alike.refl U.vm) qK, qN.same rfl⟩, XS.same (s := U) (U := U.calling g mk a) rfl qX, XH.moved (u := U) (U := U.calling g mk a) (Vm.Alike.refl U.vm) qH⟩
section JX
variable {T : TT} {E : EE} {K : KT} {w w' : World} {H0 : Heap} {pc idx : Nat} {L : List (Option Value)} {st vs : List Value} {cc bytes : ByteArray} {own : String} {rm rm' : Room} {y : MethodName} {maxL np : Nat} {ret : Option FieldType} {b κ : Nat}
theorem J_svlen (o : Ok K cc own rm) (gx : GdX T E K H0) (d : decode cc pc = .ok (.getstatic idx, 3)) (d2 : decode cc (pc + 3) = .ok (.arraylength, 1)) (lk : Cond.fieldLink own idx "Datalogmill" "SERVED" "[I" ∈ GW) (k : Jj K (WdT T E H0) w (pc + 4) L (.int (ii 6) :: st)) : Jj K (WdT T E H0) w pc L st := by
  obtain ⟨p, l, e, R, s, m, args, below, meth, cd, cells, slots, Q⟩ := K
  intro H locs ls hW hl hc
  obtain ⟨-, ⟨-, -, sv, hz, ht⟩, hh⟩ := gx
  have hh : s.heap = H0 := hh
  subst hh
  exact va_gets o.1 o.2.1 hz hW.2.2.2 o.2.2.1 (o.2.2.2.1 _ lk) (fun x h => h) d (va_tlen o.1 o.2.1 ht hW.2.2.2 (v := ii 6) rfl d2 (k H locs ls hW hl hc))
theorem J_svld {i : Nat} {x : Int} (o : Ok K cc own rm) (gx : GdX T E K H0) (d : decode cc pc = .ok (.getstatic idx, 3)) (d2 : decode cc (pc + 3) = .ok (.iload i, 2)) (d3 : decode cc (pc + 5) = .ok (.iaload, 1)) (lk : Cond.fieldLink own idx "Datalogmill" "SERVED" "[I" ∈ GW) (hv : L[i]? = some (some (.int (ii x)))) (hx : R32 x) (hb : 0 ≤ x ∧ x < 6) (k : Jj K (WdT T E H0) w (pc + 6) L (.int (ii (svI x.toNat)) :: st)) : Jj K (WdT T E H0) w pc L st := by
  obtain ⟨p, l, e, R, s, m, args, below, meth, cd, cells, slots, Q⟩ := K
  intro H locs ls hW hl hc
  obtain ⟨-, ⟨-, -, sv, hz, ht⟩, hh⟩ := gx
  have hh : s.heap = H0 := hh
  subst hh
  have h2 := k H locs ls hW hl hc
  refine va_gets o.1 o.2.1 hz hW.2.2.2 o.2.2.1 (o.2.2.2.1 _ lk) (fun x h => h) d (lv_iload o.1 o.2.1 d2 (hl.2.2.2 _ _ hv) (va_ti o.1 o.2.1 ht hW.2.2.2 (vp_in_ii hx (by exact hb)) rfl d3 ?_))
  rw [ii_clamp hx]
  exact h2
theorem R_svI (j : Nat) : R32 (svI j) := by
  unfold svI
  rcases Nat.lt_or_ge j 6 with h | h
  · have : j = 0 ∨ j = 1 ∨ j = 2 ∨ j = 3 ∨ j = 4 ∨ j = 5 := by omega
    rcases this with rfl | rfl | rfl | rfl | rfl | rfl <;> exact ⟨by decide, by decide⟩
  · rw [List.getD_eq_getElem?_getD, List.getElem?_eq_none (by exact h)]
    exact ⟨by decide, by decide⟩
/-- a plain callee that wants the statics too -/
def ConIX (T : TT) (E : EE) (l : Launch) (y : MethodName) (ws : List Cond) (rm : Room) (vs : List Value) (w w' : World) (r : Int) : Prop :=
  ∀ sz : Nat, Met l y ws rm (va_Pc vs (PreX T E w sz)) (va_Qi (fun (v : Int32) (_ : Unit) => v.toInt = r) (fun _ t => StA T E w' t) (AA T E sz)) 0 0 (AA T E sz)
theorem run_SX {p : Program} {e : Env} {l : Launch} {R : Room} {s : State} {m : MethodId} {args : Array Value} {below : List Frame} {meth : Method} {cd : Code} {cells slots : Nat} {Q : State → Prop} {H : Heap} {locs : List Loc} {ls : Array Slot} {Qc : Array Value → State → Outcome → State → Prop}
    (o : Ok (p, l, e, R, s, m, args, below, meth, cd, cells, slots, Q) cc own rm) (g : Gd T E (p, l, e, R, s, m, args, below, meth, cd, cells, slots, Q)) (gx : GdX T E (p, l, e, R, s, m, args, below, meth, cd, cells, slots, Q) H0) (d : decode cc pc = .ok (.invokestatic idx, 3)) (lk : LK own idx y) (ml : ML y bytes maxL ret np) (sl : Cond.static y ∈ GW) (hrm : rmLe rm' rm maxL)
    (hM : Met l y (WS y bytes maxL ret) rm' (va_Pc vs (PreX T E w H.size)) Qc 0 0 (AA T E H.size)) (hn : vs.length = np) (hst : c1s st) (hcl : cells ≤ R.cells) (hsl : slots ≤ R.slots)
    (hW : WdT T E H0 w H locs) (hl : hasL cd ls L) : va_Run p l e R s m args below meth cd H locs cells slots 0 0 (F0 m pc ls (vs.reverse ++ st)) st (Qc vs.toArray) (AA T E H.size) := by
  obtain ⟨hR, hF, hP, hS⟩ := hW
  obtain ⟨gK, gI, gT, gN⟩ := g
  obtain ⟨gX, gH, gh⟩ := gx
  have gh : s.heap = H0 := gh
  subst gh
  obtain ⟨k1, k2, k3, k4, k5⟩ := call_core o ml hrm
  have hxh : XH (AA T E H.size) s H := (gH.kept hS.2.1).narrow (AA_sub hS.1)
  have hpre : PreS s H (va_Pc vs (PreX T E w H.size)) vs := ⟨PreX_blind, fun U hU hW => ⟨rfl, ⟨by rw [hU], hR, hF, by rw [hU]; exact hP, va_K.moved hW.alike gK, gN.warm hW⟩, gX.warm hW, by rw [hU]; exact hxh.moved hW.alike⟩⟩
  rcases lk with h | ⟨host, h⟩
  · exact va_runS (Ts := GW) (nL := cd.maxLocals) (As := vs) (rest := st) ⟨o.1, o.2.1, rfl, o.2.2.1, o.2.2.2.1⟩ hM ⟨⟨k1.1, k1.2.1, k1.2.2.1, k1.2.2.2.1, k1.2.2.2.2.1, k1.2.2.2.2.2, k2, k3, k4, k5, o.2.2.2.1 _ h⟩, o.2.2.2.1 _ sl⟩ hpre rfl hn hl.1 rfl (lv_room (c1s_sum hst)) d ⟨hcl, hsl⟩
  · exact va_runSN (Ts := GW) (nL := cd.maxLocals) (As := vs) (rest := st) ⟨o.1, o.2.1, rfl, o.2.2.1, o.2.2.2.1⟩ hM ⟨⟨k1, k2, k3, k4, k5, va_Nw.use rfl (gN.2.1 _ _ _ _ h)⟩, o.2.2.2.1 _ sl, trivial⟩ hpre rfl hn hl.1 rfl (lv_room (c1s_sum hst)) d ⟨hcl, hsl⟩
theorem J_sIX {r : Int} {stk : List Value} (o : Ok K cc own rm) (g : Gd T E K) (kr : KR K) (gx : GdX T E K H0) (d : decode cc pc = .ok (.invokestatic idx, 3)) (lk : LK own idx y) (ml : ML y bytes maxL ret np) (sl : Cond.static y ∈ GW) (hrm : rmLe rm' rm maxL)
    (hM : ConIX T E (kL K) y (WS y bytes maxL ret) rm' vs w w' r) (hn : vs.length = np) (hk : stk = vs.reverse ++ st) (hst : c1s st)
    (k : R32 r → Jj K (WdT T E H0) w' (pc + 3) L (.int (ii r) :: st)) : Jj K (WdT T E H0) w pc L stk := by
  subst hk
  obtain ⟨p, l, e, R, s, m, args, below, meth, cd, cells, slots, Q⟩ := K
  intro H locs ls hW hl hc
  refine va_calli (run_SX o g gx d lk ml sl hrm (hM H.size) hn hst kr.1 kr.2 hW hl) hW.2.2.2 (fun q _ h => AA_sub hW.2.2.2.1 q h) (AA_sub hW.2.2.2.1) (fun v u t H1 locs1 ht hvm hv hB hz1 hk1 hS1 => ?_)
  have hr : R32 r := by rw [← hv]; exact R_toInt v
  have hv2 : v = ii r := by rw [← hv]; exact (toInt_ii v).symm
  rw [hv2]
  exact k hr H1 locs1 ls (St_Wd (p := p) (e := e) (l := l) (R := R) (s := s) (m := m) (args := args) (below := below) (meth := meth) (cd := cd) (cells := cells) (slots := slots) (Q := Q) hB ht hS1) hl hc
theorem con_IX (hy : plainName y.cls = true) (hret : ret = some .int) (hl : vs.length ≤ maxL) (hcv : ∀ v ∈ vs, v.category = 1) (hrm : rm.cells = 0 ∧ rm.slots = 0) (hI : Inj T E) (hT : Tn T) {l : Launch} {r : Int}
    (h : ∀ (K : KT) (H0 : Heap), KofX T E K H0 l bytes y.cls rm → RetI T E K H0 bytes w' r → Jj K (WdT T E H0) w 0 (entL vs maxL) []) : ConIX T E l y (WS y bytes maxL ret) rm vs w w' r := by
  intro sz
  refine Met.ofW (cc := bytes) (maxL := maxL) (ret := ret) hy rfl ?_
  intro p e s m args below meth c s₁ B hml hv
  obtain ⟨rfl, ⟨hsz, hR, hF, hP, hK, hN⟩, hX, hH⟩ := hv
  have hts := atoms_spec (ws := WS y bytes maxL ret) B.pre
  have hown : s.vm.findClass y.cls = some m.cls := findClass_of_methodNamed B.named
  subst hsz
  rw [lg_entry_eq]
  obtain ⟨e1, e2⟩ := ent_has hl hml hcv
  refine h (p, l, e, (headSpec (WS y bytes maxL ret) rm).room, s, m, vs.toArray, below, meth, c, 0, 0, _) s.heap ⟨⟨B.exec, B.bytes, hown, fun w hw => hts w (List.mem_cons_of_mem _ hw), B.notSynchronized, rfl⟩, ⟨hK, hI, hT, hN⟩, ⟨Nat.zero_le _, Nat.zero_le _⟩, rfl, hX, hH, rfl⟩ ?_ s.heap [] _ ⟨hR, hF, hP, va_S.rf⟩ e1 e2
  intro pc L hx d H locs ls hW hl hc
  have hr := B.returns
  rw [hret] at hr
  have hlocks := B.notSynchronized
  exact W.iret (v := ii r) B.exec B.bytes hr (fun t ht hWm => ⟨⟨ii r, (), rfl, ii_toInt hx, hW.1, hW.2.1, by rw [ht]; exact hW.2.2.1, va_K.moved hWm.alike hK, hN.warm hWm⟩, hW.2.2.2.F ht⟩) hW.2.2.2.2.2 d
/-- a throw's rows at pc -/
def isThr (cc : ByteArray) (pc n : Nat) : Prop := (n = 1 ∨ n = 2 ∨ n = 3) ∧ decode cc pc = .ok (.new (xIk n), 3) ∧ decode cc (pc + 3) = .ok (.dup, 1) ∧
  ∃ (k : Nat) (tx : String), (k, tx) ∈ xStr ∧ ((decode cc (pc + 4) = .ok (.ldc k, 2) ∧ decode cc (pc + 6) = .ok (.invokespecial (xIc n), 3) ∧ decode cc (pc + 9) = .ok (.athrow, 1)) ∨
    (decode cc (pc + 4) = .ok (.ldc_w k, 3) ∧ decode cc (pc + 7) = .ok (.invokespecial (xIc n), 3) ∧ decode cc (pc + 10) = .ok (.athrow, 1)))
def ThrX (T : TT) (E : EE) (K : KT) (H0 : Heap) (cc : ByteArray) (w' : World) (n : Nat) : Prop := ∀ (pc : Nat) (L : List (Option Value)) (st : List Value), c1s st → isThr cc pc n → Jj K (WdT T E H0) w' pc L st
/-- what comes out of a method that may throw: the world, which exception (0: none), the answer -/
def RetXI (T : TT) (E : EE) (K : KT) (H0 : Heap) (cc : ByteArray) (out : World × Nat × Int) : Prop := (out.2.1 = 0 → RetI T E K H0 cc out.1 out.2.2) ∧ (out.2.1 ≠ 0 → ThrX T E K H0 cc out.1 out.2.1)
def RetXZ (T : TT) (E : EE) (K : KT) (H0 : Heap) (cc : ByteArray) (out : World × Nat × Int) : Prop := (out.2.1 = 0 → RetZ T E K H0 cc out.1 out.2.2) ∧ (out.2.1 ≠ 0 → ThrX T E K H0 cc out.1 out.2.1)
def RetXV (T : TT) (E : EE) (K : KT) (H0 : Heap) (cc : ByteArray) (out : World × Nat × Int) : Prop := (out.2.1 = 0 → RetV T E K H0 cc out.1) ∧ (out.2.1 ≠ 0 → ThrX T E K H0 cc out.1 out.2.1)
/-- the world in a heap, without the machine's words -/
def StT (T : TT) (E : EE) (w : World) (U : State) : Prop := RW w ∧ Fx T w ∧ va_P E.D T.cl (wsl T E w) U.heap
def XCX (T : TT) (E : EE) (sz : Nat) (out : World × Nat × Int) : String → State → State → Prop := vx_X (fun (_ : Unit) => True) (fun En _ t => out.2.1 ≠ 0 ∧ En = xName out.2.1 ∧ StT T E out.1 t) (AA T E sz)
def ConXI (T : TT) (E : EE) (l : Launch) (y : MethodName) (ws : List Cond) (rm : Room) (vs : List Value) (w : World) (out : World × Nat × Int) : Prop :=
  ∀ sz : Nat, vx_Met l y ws rm (va_Pc vs (PreX T E w sz)) (va_Qi (fun (v : Int32) (_ : Unit) => out.2.1 = 0 ∧ v.toInt = out.2.2) (fun _ t => StA T E out.1 t) (AA T E sz)) (XCX T E sz out) 1 6 (AA T E sz)
def ConXV (T : TT) (E : EE) (l : Launch) (y : MethodName) (ws : List Cond) (rm : Room) (vs : List Value) (w : World) (out : World × Nat × Int) : Prop :=
  ∀ sz : Nat, vx_Met l y ws rm (va_Pc vs (PreX T E w sz)) (va_Qv (fun (_ : Unit) => out.2.1 = 0) (fun _ t => StA T E out.1 t) (AA T E sz)) (XCX T E sz out) 1 6 (AA T E sz)
theorem thrX {p : Program} {l : Launch} {e : Env} {R : Room} {s : State} {m : MethodId} {args : Array Value} {below : List Frame} {meth : Method} {cd : Code} {Qc : Array Value → State → Outcome → State → Prop} {out : World × Nat × Int}
    (hl : l.stackTraces = false) (o : Ok (p, l, e, R, s, m, args, below, meth, cd, 0, 0, vx_MQ below Qc (XCX T E s.heap.size out) args s 1 6 (AA T E s.heap.size)) cc RX10 rm)
    (gK : va_K E.D T.cl (tysE T E) s) (gN : NWs s) (gX : XS s) (gH : XH (AA T E s.heap.size) s s.heap) (hex : ∀ x ∈ cd.exceptionTable.toList, False) (hrm : 6 ≤ R.frames ∧ 100 ≤ R.locals ∧ 1 ≤ R.cells ∧ 6 ≤ R.slots) (hn : out.2.1 ≠ 0) :
    ThrX T E (p, l, e, R, s, m, args, below, meth, cd, 0, 0, vx_MQ below Qc (XCX T E s.heap.size out) args s 1 6 (AA T E s.heap.size)) s.heap cc out.1 out.2.1 := by
  intro pc L st hst ht H locs ls hW hL hc
  obtain ⟨hn3, d0, d3, k, tx, hk, hd⟩ := ht
  obtain ⟨sa, hsa⟩ := gX.2 _ hk
  have hin := xW hn3
  have hB : ∀ w ∈ xWds out.2.1, w.before args s = true := fun w hw => by
    rcases (hin w hw).2 with h | h
    · exact o.2.2.2.1 w h
    · have h1 := gX.1 w h
      refine va_Nw.use ?_ h1
      simp only [xOther, List.mem_cons, List.not_mem_nil, or_false] at h
      rcases h with rfl | rfl | rfl | rfl | rfl | rfl <;> rfl
  have hfit : Bundle.fit (xName out.2.1) = true := by
    rcases hn3 with e | e | e <;> rw [e] <;> decide +kernel
  have hnames : ∀ n ∈ xSup, Bundle.fit n = true := by decide +kernel
  have hX : ∀ t : State, s.vm.Alike t.vm → H.size ≤ t.heap.size → (∀ q : Nat, q < H.size → t.heap[q]? = H[q]?) → XCX T E s.heap.size out (xName out.2.1) s t := by
    intro t hvm hsz hq
    obtain ⟨hR, hF, hP, hS⟩ := hW
    refine ⟨(), trivial, ⟨hn, rfl, hR, hF, va_P.kept hP (fun i q hi => hq _ (vx_lt hP hi))⟩, Nat.le_trans hS.1 hsz, fun q h1 h2 => ?_⟩
    rw [hq q (Nat.lt_of_lt_of_le h1 hS.1)]
    exact hS.2.1 q h1 h2
  have hsum : (st.map fun v => v.category).sum ≤ 8 := c1s_sum hst
  have hlen : xSup.length = 2 := rfl
  rcases hd with ⟨d4, d6, d9⟩ | ⟨d4, d7, d10⟩
  · exact vx_throwS (A := AA T E s.heap.size) (names := xSup) (cls := xName out.2.1) o.1 o.2.1 hl o.2.2.1 hfit hnames (hB _ List.mem_cons_self) (hB _ (List.mem_cons_of_mem _ List.mem_cons_self)) hsa (fun w hw => hB w (List.mem_cons_of_mem _ (List.mem_cons_of_mem _ hw))) (fun w hw => (hin w hw).1) gH.1 gH.2.1 hW.2.2.2 hL.1 d0 d3 d4 d6 d9 (fun x hx => (hex x hx).elim) (by rw [hlen]; omega) (by rw [hlen]; omega) (by omega) (by omega) o.2.2.2.2.1 hX hW.2.2.2.2.2 (Nat.le_refl _) (Nat.le_refl _)
  · exact vx_throwSW (A := AA T E s.heap.size) (names := xSup) (cls := xName out.2.1) o.1 o.2.1 hl o.2.2.1 hfit hnames (hB _ List.mem_cons_self) (hB _ (List.mem_cons_of_mem _ List.mem_cons_self)) hsa (fun w hw => hB w (List.mem_cons_of_mem _ (List.mem_cons_of_mem _ hw))) (fun w hw => (hin w hw).1) gH.1 gH.2.1 hW.2.2.2 hL.1 d0 d3 d4 d7 d10 (fun x hx => (hex x hx).elim) (by rw [hlen]; omega) (by rw [hlen]; omega) (by omega) (by omega) o.2.2.2.2.1 hX hW.2.2.2.2.2 (Nat.le_refl _) (Nat.le_refl _)
theorem con_XI (hy : plainName y.cls = true) (hown9 : y.cls = RX10) (hret : ret = some .int) (hl : vs.length ≤ maxL) (hcv : ∀ v ∈ vs, v.category = 1) (hrm : rm.cells = 1 ∧ rm.slots = 6 ∧ 6 ≤ rm.frames ∧ 100 ≤ rm.locals) (hI : Inj T E) (hT : Tn T) {l : Launch} (hst : l.stackTraces = false) {out : World × Nat × Int}
    (h : ∀ (K : KT) (H0 : Heap), KofX T E K H0 l bytes y.cls rm → RetXI T E K H0 bytes out → Jj K (WdT T E H0) w 0 (entL vs maxL) []) : ConXI T E l y (WS y bytes maxL ret) rm vs w out := by
  intro sz
  refine vx_ofW (cc := bytes) (maxL := maxL) (ret := ret) hy rfl ?_
  intro p e s m args below meth c s₁ B hml hex hv
  obtain ⟨rfl, ⟨hsz, hR, hF, hP, hK, hN⟩, hX, hH⟩ := hv
  have hts := atoms_spec (ws := WS y bytes maxL ret) B.pre
  have hown : s.vm.findClass y.cls = some m.cls := findClass_of_methodNamed B.named
  subst hsz
  rw [lg_entry_eq]
  obtain ⟨e1, e2⟩ := ent_has hl hml hcv
  have hok : ∀ Q : State → Prop, Ok (p, l, e, (headSpec (WS y bytes maxL ret) rm).room, s, m, vs.toArray, below, meth, c, 0, 0, Q) bytes y.cls rm := fun Q => ⟨B.exec, B.bytes, hown, fun w hw => hts w (List.mem_cons_of_mem _ hw), B.notSynchronized, rfl⟩
  refine h (p, l, e, (headSpec (WS y bytes maxL ret) rm).room, s, m, vs.toArray, below, meth, c, 0, 0, _) s.heap ⟨hok _, ⟨hK, hI, hT, hN⟩, ⟨Nat.zero_le _, Nat.zero_le _⟩, rfl, hX, hH, rfl⟩ ⟨fun h0 => ?_, fun hn => ?_⟩ s.heap [] _ ⟨hR, hF, hP, va_S.rf⟩ e1 e2
  · intro pc L hx d H locs ls hW hl hc
    have hr := B.returns
    rw [hret] at hr
    have hlocks := B.notSynchronized
    exact vx_ret (W.widen (k := 1) (n := 6) (Nat.zero_le _) (Nat.zero_le _) (W.iret (v := ii out.2.2) B.exec B.bytes hr (fun t ht hWm => ⟨⟨ii out.2.2, (), rfl, ⟨h0, ii_toInt hx⟩, hW.1, hW.2.1, by rw [ht]; exact hW.2.2.1, va_K.moved hWm.alike hK, hN.warm hWm⟩, hW.2.2.2.F ht⟩) hW.2.2.2.2.2 d))
  · have hR9 : (headSpec (WS y bytes maxL ret) rm).room = rm := rfl
    rw [hown9] at hok
    exact thrX hst (hok _) hK hN hX hH hex (by rw [hR9]; exact ⟨hrm.2.2.1, hrm.2.2.2, Nat.le_of_eq hrm.1.symm, Nat.le_of_eq hrm.2.1.symm⟩) hn
theorem con_XZ (hy : plainName y.cls = true) (hown9 : y.cls = RX10) (hret : ret = some .boolean) (hl : vs.length ≤ maxL) (hcv : ∀ v ∈ vs, v.category = 1) (hrm : rm.cells = 1 ∧ rm.slots = 6 ∧ 6 ≤ rm.frames ∧ 100 ≤ rm.locals) (hI : Inj T E) (hT : Tn T) {l : Launch} (hst : l.stackTraces = false) {out : World × Nat × Int}
    (h : ∀ (K : KT) (H0 : Heap), KofX T E K H0 l bytes y.cls rm → RetXZ T E K H0 bytes out → Jj K (WdT T E H0) w 0 (entL vs maxL) []) : ConXI T E l y (WS y bytes maxL ret) rm vs w out := by
  intro sz
  refine vx_ofW (cc := bytes) (maxL := maxL) (ret := ret) hy rfl ?_
  intro p e s m args below meth c s₁ B hml hex hv
  obtain ⟨rfl, ⟨hsz, hR, hF, hP, hK, hN⟩, hX, hH⟩ := hv
  have hts := atoms_spec (ws := WS y bytes maxL ret) B.pre
  have hown : s.vm.findClass y.cls = some m.cls := findClass_of_methodNamed B.named
  subst hsz
  rw [lg_entry_eq]
  obtain ⟨e1, e2⟩ := ent_has hl hml hcv
  have hok : ∀ Q : State → Prop, Ok (p, l, e, (headSpec (WS y bytes maxL ret) rm).room, s, m, vs.toArray, below, meth, c, 0, 0, Q) bytes y.cls rm := fun Q => ⟨B.exec, B.bytes, hown, fun w hw => hts w (List.mem_cons_of_mem _ hw), B.notSynchronized, rfl⟩
  refine h (p, l, e, (headSpec (WS y bytes maxL ret) rm).room, s, m, vs.toArray, below, meth, c, 0, 0, _) s.heap ⟨hok _, ⟨hK, hI, hT, hN⟩, ⟨Nat.zero_le _, Nat.zero_le _⟩, rfl, hX, hH, rfl⟩ ⟨fun h0 => ?_, fun hn => ?_⟩ s.heap [] _ ⟨hR, hF, hP, va_S.rf⟩ e1 e2
  · intro pc L hx d H locs ls hW hl hc
    have hr := B.returns
    rw [hret] at hr
    have hlocks := B.notSynchronized
    have hx2 : R32 out.2.2 := by unfold R32; omega
    exact vx_ret (W.widen (k := 1) (n := 6) (Nat.zero_le _) (Nat.zero_le _) (W.zret (v := ii out.2.2) B.exec B.bytes hr (by rcases hx with h9 | h9 <;> rw [h9] <;> decide) (fun t ht hWm => ⟨⟨ii out.2.2, (), rfl, ⟨h0, ii_toInt hx2⟩, hW.1, hW.2.1, by rw [ht]; exact hW.2.2.1, va_K.moved hWm.alike hK, hN.warm hWm⟩, hW.2.2.2.F ht⟩) hW.2.2.2.2.2 d))
  · have hR9 : (headSpec (WS y bytes maxL ret) rm).room = rm := rfl
    rw [hown9] at hok
    exact thrX hst (hok _) hK hN hX hH hex (by rw [hR9]; exact ⟨hrm.2.2.1, hrm.2.2.2, Nat.le_of_eq hrm.1.symm, Nat.le_of_eq hrm.2.1.symm⟩) hn
theorem con_XV (hy : plainName y.cls = true) (hown9 : y.cls = RX10) (hret : ret = none) (hl : vs.length ≤ maxL) (hcv : ∀ v ∈ vs, v.category = 1) (hrm : rm.cells = 1 ∧ rm.slots = 6 ∧ 6 ≤ rm.frames ∧ 100 ≤ rm.locals) (hI : Inj T E) (hT : Tn T) {l : Launch} (hst : l.stackTraces = false) {out : World × Nat × Int}
    (h : ∀ (K : KT) (H0 : Heap), KofX T E K H0 l bytes y.cls rm → RetXV T E K H0 bytes out → Jj K (WdT T E H0) w 0 (entL vs maxL) []) : ConXV T E l y (WS y bytes maxL ret) rm vs w out := by
  intro sz
  refine vx_ofW (cc := bytes) (maxL := maxL) (ret := ret) hy rfl ?_
  intro p e s m args below meth c s₁ B hml hex hv
  obtain ⟨rfl, ⟨hsz, hR, hF, hP, hK, hN⟩, hX, hH⟩ := hv
  have hts := atoms_spec (ws := WS y bytes maxL ret) B.pre
  have hown : s.vm.findClass y.cls = some m.cls := findClass_of_methodNamed B.named
  subst hsz
  rw [lg_entry_eq]
  obtain ⟨e1, e2⟩ := ent_has hl hml hcv
  have hok : ∀ Q : State → Prop, Ok (p, l, e, (headSpec (WS y bytes maxL ret) rm).room, s, m, vs.toArray, below, meth, c, 0, 0, Q) bytes y.cls rm := fun Q => ⟨B.exec, B.bytes, hown, fun w hw => hts w (List.mem_cons_of_mem _ hw), B.notSynchronized, rfl⟩
  refine h (p, l, e, (headSpec (WS y bytes maxL ret) rm).room, s, m, vs.toArray, below, meth, c, 0, 0, _) s.heap ⟨hok _, ⟨hK, hI, hT, hN⟩, ⟨Nat.zero_le _, Nat.zero_le _⟩, rfl, hX, hH, rfl⟩ ⟨fun h0 => ?_, fun hn => ?_⟩ s.heap [] _ ⟨hR, hF, hP, va_S.rf⟩ e1 e2
  · intro pc L d H locs ls hW hl hc
    have hr := B.returns
    rw [hret] at hr
    have hlocks := B.notSynchronized
    exact vx_ret (W.widen (k := 1) (n := 6) (Nat.zero_le _) (Nat.zero_le _) (W.vret B.exec B.bytes hr (fun t ht hWm => ⟨⟨(), rfl, h0, hW.1, hW.2.1, by rw [ht]; exact hW.2.2.1, va_K.moved hWm.alike hK, hN.warm hWm⟩, hW.2.2.2.F ht⟩) hW.2.2.2.2.2 d))
  · have hR9 : (headSpec (WS y bytes maxL ret) rm).room = rm := rfl
    rw [hown9] at hok
    exact thrX hst (hok _) hK hN hX hH hex (by rw [hR9]; exact ⟨hrm.2.2.1, hrm.2.2.2, Nat.le_of_eq hrm.1.symm, Nat.le_of_eq hrm.2.1.symm⟩) hn
end JX
