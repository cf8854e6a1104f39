set_option maxRecDepth 20000 in
theorem mw183 : Cond.classLink "DatalogmillLaw" (8 : Nat) "Datalogmill" ∈ GW := inGW (List.mem_of_getElem? (i := 183) (by rfl)) (by decide +kernel)
set_option maxRecDepth 20000 in
theorem mw1358 : Cond.classLink "DatalogmillLaw" (101 : Nat) "DatalogmillModel" ∈ GW := inGW (List.mem_of_getElem? (i := 1358) (by rfl)) (by decide +kernel)
set_option maxRecDepth 20000 in
theorem mw185 : Cond.methodLink "DatalogmillLaw" (100 : Nat) ({ cls := "Datalogmill", name := "<init>", desc := "()V" } : MethodName) ∈ GW := inGW (List.mem_of_getElem? (i := 185) (by rfl)) (by decide +kernel)
theorem lkL_100 : LK "DatalogmillLaw" 100 yX10_init := Or.inl mw185
set_option maxRecDepth 20000 in
theorem mw187 : Cond.code yX10_init cX10_init 8 none ∈ GW := inGW (List.mem_of_getElem? (i := 187) (by rfl)) (by decide +kernel)
theorem ml_Dm_init : ML yX10_init cX10_init 8 none 0 := ⟨mw187, mw163, by decide +kernel, by decide +kernel, by decide +kernel⟩
set_option maxRecDepth 20000 in
theorem mw186 : Cond.instanceMethod ({ cls := "Datalogmill", name := "<init>", desc := "()V" } : MethodName) ∈ GW := inGW (List.mem_of_getElem? (i := 186) (by rfl)) (by decide +kernel)
set_option maxRecDepth 20000 in
theorem mw1360 : Cond.methodLink "DatalogmillLaw" (103 : Nat) ({ cls := "DatalogmillModel", name := "<init>", desc := "()V" } : MethodName) ∈ GW := inGW (List.mem_of_getElem? (i := 1360) (by rfl)) (by decide +kernel)
theorem lkL_103 : LK "DatalogmillLaw" 103 yX11_init := Or.inl mw1360
set_option maxRecDepth 20000 in
theorem mw1362 : Cond.code yX11_init cX11_init 1 none ∈ GW := inGW (List.mem_of_getElem? (i := 1362) (by rfl)) (by decide +kernel)
theorem ml_Re_init : ML yX11_init cX11_init 1 none 0 := ⟨mw1362, mw174, by decide +kernel, by decide +kernel, by decide +kernel⟩
set_option maxRecDepth 20000 in
theorem mw1361 : Cond.instanceMethod ({ cls := "DatalogmillModel", name := "<init>", desc := "()V" } : MethodName) ∈ GW := inGW (List.mem_of_getElem? (i := 1361) (by rfl)) (by decide +kernel)
/-! THE CLAIM OUT OF ONE WALK OF THE LAW'S BODY. Your part is whole_start (and what it stands on); all else here is the same for every law, but numbers. -/
def R_law : String := "DatalogmillLaw"
def lw_P (b : Addr) (xs : List Int32) (args : Array Value) (s : State) : Prop := args = #[.ref b] ∧ s.IntsAt b xs ∧ xs.length ≤ 4096 ∧ (Jvm.Cond.and given_1 narrow_1).before args s = true
def lw_Q (_ : Array Value) (s : State) (o : Outcome) (t : State) : Prop := o = .returned (some (.int 1)) ∧ Framed s o t [] 601024 7293034
def lw_Z (below : List Frame) (a : Array Value) (s : State) : State → Prop := fun t => ∃ o, t.status = .running ∧ Ended t below o ∧ lw_Q a s o t
/-- the law's own end, with 1 on the stack, nothing written that was there before, its room as the claim has it -/
theorem lw_ret {p : Program} {l : Launch} {e : Env} {s : State} {m : MethodId} {below : List Frame} {meth : Method} {c : Code} {b : Nat} (hx : p.tables.exec = Jvm.exec) (hb : c.code = code) (hr : meth.sig.returnType = ret) (hlocks : meth.locks = false) {pc : Nat} {H : Heap} {ls : Array Slot} (hdg : decode code pc = .ok (.ireturn, 1)) : W p l e room_1 s m #[Value.ref b] below meth c H [] 601024 7293034 (lw_Z below #[Value.ref b] s) (F0 m pc ls [.int 1]) := by
  intro T hT X
  obtain ⟨fs, hret, hrun, hended, hW, hframe⟩ := X.leave (v := some (.int 1)) (hlocks := hlocks) (fun h => by rw [hr] at h; cases h)
  have hmeth' : T.vm.method? m = some meth := X.method'
  refine ⟨T.setFrames fs, ?_, .returned (some (.int 1)), hrun, hended, rfl, ⟨_, rfl⟩, hW, hframe⟩
  jvm_step X.here [X.here.top, hx, hb, hdg, hmeth', hr, ret, narrow_b1]
  (try refine ⟨rfl, ?_⟩); (try refine ⟨rfl, ?_⟩)
  first | (intro acts; rw [hret _ acts rfl rfl rfl]) | rw [hret _ _ rfl rfl rfl]
  exact Steps.refl _
/-- what holds at the law's entry: the machine, the code, the tables' words (any of lw_tbl by 'hts w (by decide +kernel)'), the script of L ints xs at the cell b, what the Statement gives of the start (any of its parts by flat_of_before) -/
def lw_At (p : Program) (s : State) (m : MethodId) (meth : Method) (c : Code) (b L : Nat) (xs : Nat → Int32) : Prop :=
  p.tables.exec = Jvm.exec ∧ c.code = code ∧ meth.sig.returnType = ret ∧ c.maxLocals = 7 ∧ s.vm.findClass R_law = some m.cls ∧ (∀ w ∈ lw_tbl, w.before #[Value.ref b] s = true) ∧ va_X b L xs s s.heap ∧ b < s.heap.size ∧ meth.locks = false ∧ (Jvm.Cond.and given_1 narrow_1).before #[Value.ref b] s = true
/-! objects that the law makes -/
section JL
variable {T : TT} {S : EE} {K : KT} {w w' : World} {H0 : Heap} {pc idx n n' : Nat} {L : List (Option Value)} {st vs : List Value} {cc bytes : ByteArray} {own : String} {rm rm' : Room} {y : MethodName} {maxL np κ N a b c j : Nat} {ad : Nat → Nat}
theorem J_newL {C : String} {F : u_T} {ty : Nat → FieldType} {a' b' : Nat} (o : Ok K cc own rm) (hT : Tn T) (g : Gd (tr T n) (sad S ad) K) (kc : KC K a b) (d : decode cc pc = .ok (.new idx, 3)) (hcl : Cond.classLink own idx C ∈ GW) (hin : Cond.instantiable C N ∈ GW) (hini : Cond.initialized C ∈ GW)
    (hc : T.cl[κ - 1]? = some (C, F, N)) (hF : ∀ w ∈ u_ws C F N, w ∈ GW) (hty : ∀ k, k < N → parseFieldDescriptor (F k).2.2.1 = some (ty k)) (hk : T.kd (n + 1) = κ) (hκ : 0 < κ ∧ κ < 40) (hd : ∀ j, j < N → defaultValue (ty j) = if T.isref κ j = true then .null else .int 0)
    (hz : Zn n w) (hr : Rn T n w) (ha : a + 1 = a') (hb : b + N = b') (hroom : a' ≤ rm.cells ∧ b' ≤ rm.slots)
    (k : ∀ (K' : KT) (ad' : Nat → Nat) (q : Nat), KSim K K' → Ok K' cc own rm → KC K' a' b' → Ag n (n + 1) H0.size ad ad' → ad' (n + 1) = q → Gd (tr T (n + 1)) (sad S ad') K' → Jj K' (WdT (tr T (n + 1)) (sad S ad') H0) w (pc + 3) L (.ref q :: st)) : Jj K (WdT (tr T n) (sad S ad) H0) w pc L st := by
  have o' : Ok (kAdd K 1 N) cc own rm := OkO.add o
  obtain ⟨p, l, e, R, s, m, args, below, meth, cd, cells, slots, Q⟩ := K
  intro H locs ls hW hl hcc
  have hR : R = rm := o.2.2.2.2.2
  obtain ⟨kc1, kc2⟩ := kc
  have kc1' : cells = a := kc1
  have kc2' : slots = b := kc2
  obtain ⟨hKn, hfc, hkk⟩ := g.1.1 (κ - 1) _ hc
  have hcell : cells + 1 ≤ R.cells := by rw [hR, kc1']; exact Nat.le_trans (by omega) hroom.1
  have hslot : slots + N ≤ R.slots := by rw [hR, kc2']; exact Nat.le_trans (by omega) hroom.2
  refine W.newcK o.1 o.2.1 o.2.2.1 (o.2.2.2.1 _ hcl) (o.2.2.2.1 _ hin) (o.2.2.2.1 _ hini) (g := F0 m pc ls st) rfl d hcell hslot hfc rfl (fun H1 kC hkC e1 z1 o1 => ?_)
  refine grow (a := 1) (b := N) hT g hW hr o1 z1 ?_ hl hcc (fun ad' q hag hq hg => k _ ad' q ⟨1, N, rfl⟩ o' ⟨by show cells + 1 = a'; omega, by show slots + N = b'; omega⟩ hag hq hg)
  have hkn : (tr T (n + 1)).kd (n + 1) = κ := tr_kd hk (Nat.le_refl _)
  rw [cel_obj hkn hκ.2, nfT_eq (show (tr T (n + 1)).cl[κ - 1]? = some (C, F, N) from hc)]
  have hts : ∀ w ∈ GW, w.before args s = true := o.2.2.2.1
  refine ⟨_, hc, (u_born ty hts hF ⟨hKn, hfc, hkk⟩ hkC e1 hty).to (fun j hj => ?_)⟩
  rw [hd j hj]
  have e2 : vp_V ((List.range N).map (fval (tr T (n + 1)) (sad S (fun c => if c = n + 1 then H.size else ad c)) κ w (n + 1))) j = fval (tr T (n + 1)) (sad S (fun c => if c = n + 1 then H.size else ad c)) κ w (n + 1) j := by
    unfold vp_V
    rw [List.getD_eq_getElem?_getD, List.getElem?_map, List.getElem?_range hj]
    rfl
  rw [e2]
  unfold fval
  show _ = if T.isref κ j = true then _ else _
  rw [hz (n + 1) j (by omega)]
  by_cases q : T.isref κ j = true
  · rw [if_pos q, if_pos q]; rfl
  · rw [if_neg q, if_neg q]; rfl
theorem J_initL {b0 : Nat} {stk vs' : List Value} {b1 : Nat} {a' b' : Nat} (o : Ok K cc own rm) (hT : Tn T) (g : Gd (tr T n) (sad S ad) K) (kc : KC K a b) (d : decode cc pc = .ok (.invokespecial idx, 3)) (lk : LK own idx y) (ml : ML y bytes maxL none np) (hi : Cond.instanceMethod y ∈ GW) (hnm : y.name = "<init>") (hrm : rmLeC rm' rm maxL)
    (hM : ConC T S n n' (kL K) y (WS y bytes maxL none) rm' (.ref b0 :: vs) ad w w') (he : (.ref b1 :: vs' : List Value) = .ref b0 :: vs) (hn : vs.length = np) (hnn : n ≤ n') (hk : stk = vs'.reverse ++ .ref b1 :: st) (hst : c1s st) (ha : a + rm'.cells = a') (hb : b + rm'.slots = b') (hroom : a' ≤ rm.cells ∧ b' ≤ rm.slots)
    (k : ∀ (K' : KT) (ad' : Nat → Nat), KSim K K' → Ok K' cc own rm → KC K' a' b' → Ag n n' H0.size ad ad' → Gd (tr T n') (sad S ad') K' → Jj K' (WdT (tr T n') (sad S ad') H0) w' (pc + 3) L st) : Jj K (WdT (tr T n) (sad S ad) H0) w pc L stk := by
  have he2 : vs = vs' := (List.cons.inj he).2.symm
  have he1 : b0 = b1 := by have := (List.cons.inj he).1; cases this; rfl
  subst he2
  subst he1
  subst hk
  have o' : Ok (kAdd K rm'.cells rm'.slots) cc own rm := OkO.add o
  obtain ⟨p, l, e, R, s, m, args, below, meth, cd, cells, slots, Q⟩ := K
  intro H locs ls hW hl hc
  have hR : R = rm := o.2.2.2.2.2
  obtain ⟨kc1, kc2⟩ := kc
  have kc1' : cells = a := kc1
  have kc2' : slots = b := kc2
  obtain ⟨gK, gI, gT, gN⟩ := g
  obtain ⟨m1, m2, m3, m4, m5⟩ := ml
  have hts := o.2.2.2.1
  have k1 : rm'.frames + 1 ≤ R.frames := by rw [hR]; exact hrm.1
  have k2 : 8 + (maxL + 11) + rm'.locals ≤ R.locals := by rw [hR]; exact hrm.2
  have hlen : ∀ sig, parseMethodDescriptor y.desc = some sig → np = sig.parameters.length := fun sig h => by
    rw [h] at m5
    exact (Option.some.inj m5).symm
  have hpre : PreS s H (va_Pc (.ref b0 :: vs) (PreA (tr T n) (sad S ad) w H.size)) (.ref b0 :: vs) := ⟨PreA_blind, fun U hU hWm => ⟨rfl, by rw [hU], hW.1, hW.2.1, by rw [hU]; exact hW.2.2.1, va_K.moved hWm.alike gK, gN.warm hWm⟩⟩
  have hroomc : cells + rm'.cells ≤ R.cells ∧ slots + rm'.slots ≤ R.slots := by rw [hR, kc1', kc2']; exact ⟨Nat.le_trans (by omega) hroom.1, Nat.le_trans (by omega) hroom.2⟩
  have run : va_Run p l e R s m args below meth cd H locs cells slots rm'.cells rm'.slots (F0 m pc ls (vs.reverse ++ .ref b0 :: st)) st (va_Qv (fun (ad' : Nat → Nat) => Ag n n' H.size ad ad' ∧ Inj (tr T n') (sad S ad')) (fun ad' t => StA (tr T n') (sad S ad') w' t) (AA (tr T n) (sad S ad) H.size) (Value.ref b0 :: vs).toArray) (AA (tr T n) (sad S ad) H.size) := by
    rcases lk with h | ⟨host, h⟩
    · exact va_runI (Ts := GW) (nL := cd.maxLocals) (As := vs) (rest := st) ⟨o.1, o.2.1, rfl, o.2.2.1, hts⟩ (hM H.size) ⟨⟨rfl, rfl, k1, k2, pay_in hts (goodIn_WS m1), List.mem_cons_self, hts _ m1, hts _ m2, ⟨m3, m4⟩, hlen, hts _ h⟩, hnm, hts _ hi⟩ hpre rfl hn hl.1 rfl (lv_room (c1s_sum hst)) d hroomc
    · exact va_runIN (Ts := GW) (nL := cd.maxLocals) (As := vs) (rest := st) ⟨o.1, o.2.1, rfl, o.2.2.1, hts⟩ (hM H.size) ⟨⟨⟨rfl, rfl, k1, k2, pay_in hts (goodIn_WS m1), List.mem_cons_self⟩, hts _ m1, hts _ m2, ⟨m3, m4⟩, hlen, va_Nw.use rfl (gN.2.1 _ _ _ _ h)⟩, hnm, hts _ hi⟩ hpre rfl hn hl.1 rfl (lv_room (c1s_sum hst)) d hroomc
  have hsub : ∀ q, AA (tr T n) (sad S ad) H.size q → AA (tr T n) (sad S ad) H0.size q := AA_sub hW.2.2.2.1
  refine va_callv run hW.2.2.2 (fun q _ h => hsub q h) hsub (fun ad' t H1 locs1 ht hvm hv hB hz1 hk1 hS1 => ?_)
  have hag : Ag n n' H0.size ad ad' := ⟨hv.1.1, fun c h1 h2 => Nat.le_trans hW.2.2.2.1 (hv.1.2 c h1 h2)⟩
  exact k (kAdd (p, l, e, R, s, m, args, below, meth, cd, cells, slots, Q) rm'.cells rm'.slots) ad' ⟨_, _, rfl⟩ o' ⟨by show cells + rm'.cells = a'; omega, by show slots + rm'.slots = b'; omega⟩ hag ⟨gK, hv.2, tr_Tn hT _, gN⟩ H1 locs1 ls ⟨hB.1, hB.2.1, by rw [← ht]; exact hB.2.2.1, va_S_iff (AA_tr (E := S) hag hnn) hS1⟩ hl hc
end JL
theorem wsl_full {T : TT} {E : EE} {w : World} {n : Nat} (h : T.nn = n) : wsl (tr T n) E w = wsl T E w := by
  subst h
  unfold wsl
  apply List.map_congr_left
  intro i hi
  have hi' : i < T.nn := List.mem_range.mp hi
  have hk : (tr T T.nn).kd (i + 1) = T.kd (i + 1) := if_pos (by omega)
  have hc : cel (tr T T.nn) E w (i + 1) = cel T E w (i + 1) := by
    unfold cel
    rw [hk]
    rfl
  rw [hc]
theorem Inj_full {T : TT} {E : EE} {n : Nat} (h : T.nn = n) (hI : Inj (tr T n) E) : Inj T E := by
  subst h
  exact hI
def w00 : World := fun _ _ => 0
theorem RW00 : RW w00 := fun _ _ => (⟨by decide, by decide⟩ : R32 0)
theorem Zn00 {n : Nat} : Zn n w00 := fun _ _ _ => rfl
theorem Rn00 {T : TT} {n : Nat} : Rn T n w00 := fun _ _ => Or.inl (Nat.zero_le _)
def wA0 : World := i_Dm_init w00
def wB0 : World := i_Re_init w00
/-- an empty world -/
theorem wsl_0 {T : TT} {E : EE} {w : World} : wsl (tr T 0) E w = [] := rfl
theorem Inj_0 {T : TT} {E : EE} : Inj (tr T 0) E := fun c _ h0 h1 => absurd (Nat.le_zero.mp h1) h0
def fxOk (T : TT) (w : World) (c k : Nat) : Bool := match T.fx (T.kd c) k with
  | none => true
  | some q => decide (w c k = (fxv c q : Int))
set_option maxRecDepth 100000 in
theorem fxA0 : ∀ c, c < 158 → ∀ k, k < 16 → fxOk TA wA0 c k = true := by decide +kernel
set_option maxRecDepth 100000 in
theorem fxB0 : ∀ c, c < 31 → ∀ k, k < 48 → fxOk TB wB0 c k = true := by decide +kernel
theorem Fx_of {T : TT} {w : World} {n m : Nat} (hn : T.nn < n) (hm : ∀ κ k : Nat, m ≤ k → T.fx κ k = none) (h : ∀ c, c < n → ∀ k, k < m → fxOk T w c k = true) : Fx T w := by
  intro c k q h0 h1 hq
  by_cases hk : k < m
  · have h2 := h c (by omega) k hk
    unfold fxOk at h2
    rw [hq] at h2
    exact of_decide_eq_true h2
  · rw [hm _ k (by omega)] at hq
    cases hq
theorem fxA_far (κ k : Nat) (h : 16 ≤ k) : TA.fx κ k = none := by
  show fxA κ k = none
  unfold fxA
  split <;> first | rfl | (rw [List.getD_eq_getElem?_getD, List.getElem?_eq_none (by exact Nat.le_trans (Nat.le_of_ble_eq_true rfl) h)]; rfl)
theorem fxB_far (κ k : Nat) (h : 48 ≤ k) : TB.fx κ k = none := by
  show fxB κ k = none
  unfold fxB
  split <;> first | rfl | (rw [List.getD_eq_getElem?_getD, List.getElem?_eq_none (by exact Nat.le_trans (Nat.le_of_ble_eq_true rfl) h)]; rfl)
theorem FxA0 : Fx TA wA0 := Fx_of (n := 158) (by decide) fxA_far fxA0
theorem FxB0 : Fx TB wB0 := Fx_of (n := 31) (by decide) fxB_far fxB0
def WdH (H1 : Heap) : Unit → Heap → List Loc → Prop := fun _ H locs => H = H1 ∧ locs = []
theorem J_newJ {K : KT} {H1 : Heap} {pc a b : Nat} {L : List (Option Value)} {st : List Value} {cc : ByteArray} {own : String} {rm : Room} {D : va_G} {tys : List (ClassId × FieldType)} {cJ : ClassId} (o : Ok K cc own rm) (gK : va_K D vwCl tys (kS K)) (hJ : tys[4]? = some (cJ, .long)) (kc : KC K a b) (d : decode cc pc = .ok (.newarray .long, 2)) (harr : Cond.arrayClass .long ∈ GW) (hroom : a + 1 ≤ rm.cells ∧ b + 1 ≤ rm.slots)
    (k : ∀ H2 : Heap, va_at D vwCl (H1.size, outE cJ (fun _ => 0)) H2 → H2.size = H1.size + 1 → (∀ q, q < H1.size → H2[q]? = H1[q]?) → Jj (kAdd K 1 1) (WdH H2) () (pc + 2) L (.ref H1.size :: st)) : Jj K (WdH H1) () pc L (.int (ii 1) :: st) := by
  obtain ⟨p, l, e, R, s, m, args, below, meth, cd, cells, slots, Q⟩ := K
  intro H locs ls hW hl hc
  obtain ⟨rfl, rfl⟩ := hW
  have hR : R = rm := o.2.2.2.2.2
  have e0 : cells = a := kc.1
  have e1 : slots = b := kc.2
  refine va_newaK (atype := .long) o.1 o.2.1 (o.2.2.2.1 _ harr) (g := F0 m pc ls (.int (ii 1) :: st)) rfl d rfl (by decide) (N := 1) rfl (by decide) (by rw [hR, e0]; exact hroom.1) (by rw [hR, e1]; exact hroom.2) rfl (fun H2 cA f1 z1 o1 hA hf => ?_)
  have hcA : cA = cJ := by
    have h3 : s.vm.findClass ("[" ++ FieldType.long.toString) = some cJ := (gK.2 4 _ hJ).2
    exact Option.some.inj (hf.symm.trans h3)
  subst hcA
  exact k H2 f1 z1 o1 H2 [] ls ⟨rfl, rfl⟩ hl hc
theorem iand31 (x : Int) : 0 ≤ iand x 31 ∧ iand x 31 < 32 := by
  unfold iand
  have h1 : (ii x &&& ii 31).toBitVec.toNat ≤ 31 := by
    show ((ii x).toBitVec &&& (ii 31).toBitVec).toNat ≤ 31
    rw [BitVec.toNat_and]
    exact Nat.and_le_right
  have h2 : (ii x &&& ii 31).toInt = (((ii x &&& ii 31).toBitVec.toNat : Nat) : Int) := by
    show (ii x &&& ii 31).toBitVec.toInt = _
    rw [BitVec.toInt_eq_toNat_cond, if_pos (by omega)]
  rw [h2]
  omega
/-- the two systems answer alike, step by step -/
def Sim (I : World → World → Prop) : Prop := I wA0 wB0 ∧ St_declare I ∧ St_fact I ∧ St_drop I ∧ St_pass I ∧ St_head I ∧ St_atom I ∧ St_compare I ∧ St_add I ∧ St_clear I ∧ St_enter I ∧ St_deny I ∧ St_remove I ∧ St_holds I ∧ St_holdsAt I ∧ St_holdsAnew I ∧ St_size I ∧ St_at I ∧ St_stratum I ∧ St_ways I ∧ St_cheapest I ∧ St_needed I ∧ St_whyNot I ∧ St_broken I ∧ St_repair I ∧ St_goals I ∧ St_order I ∧ St_joins I ∧ St_indexes I
theorem law_loop {X : LX} {K0 : KT} {H0 : Heap} {I : World → World → Prop} (hS : Sim I) (hN : X.n ≤ 4096)
    (hfin : ∀ (K' : KT) (a b : Nat) (z : ZZ) (i : Nat) (o5 o6 : Option Value), LawK X K0 K' H0 a b → a ≤ room_1.cells ∧ b ≤ room_1.slots → Jj K' (WdZ X H0) z 2154 (lawL X i o5 o6) []) :
    ∀ (m i a b : Nat) (K : KT) (wA wB : World) (v : Nat → Int64) (o5 o6 : Option Value), X.n < i + m → i ≤ X.n + 8 → LawK X K0 K H0 a b → a + m ≤ room_1.cells ∧ b + 6 * m ≤ room_1.slots → I wA wB → Jj K (WdZ X H0) (wA, wB, v) 23 (lawL X i o5 o6) [] := by
  intro m
  induction m with
  | zero =>
    intro i a b K wA wB v o5 o6 hm hi k hroom hI
    have o := k.1
    have g := k.2.1
    have rI : R32 (i : Int) := ⟨by omega, by omega⟩
    refine J_iload o dL_law_23 rfl ?_
    refine J_aldO_n o dL_law_25 rfl ?_
    refine J_slen o g dL_law_26 ?_
    refine J_bipush o dL_law_27 (by decide) ?_
    refine J_isub o dL_law_29 ?_
    rw [wr_of (x := (X.n : Int) - 8) ⟨by omega, by omega⟩]
    refine J_icmp_gt 2154 o dL_law_30 (by decide) rI ⟨by omega, by omega⟩ (fun c => ?_) (fun c => absurd (by omega) c)
    exact hfin _ _ _ _ _ _ _ k ⟨by omega, by omega⟩
  | succ m ih =>
    intro i a b K wA wB v o5 o6 hm hi k hroom hI
    have o := k.1
    have g := k.2.1
    have rI : R32 (i : Int) := ⟨by omega, by omega⟩
    refine J_iload o dL_law_23 rfl ?_
    refine J_aldO_n o dL_law_25 rfl ?_
    refine J_slen o g dL_law_26 ?_
    refine J_bipush o dL_law_27 (by decide) ?_
    refine J_isub o dL_law_29 ?_
    rw [wr_of (x := (X.n : Int) - 8) ⟨by omega, by omega⟩]
    refine J_icmp_gt 2154 o dL_law_30 (by decide) rI ⟨by omega, by omega⟩ (fun c => ?_) (fun c => ?_)
    · exact hfin _ _ _ _ _ _ _ k ⟨by omega, by omega⟩
    · have hi8 : i + 8 ≤ X.n := by omega
      have hend : LawE X K0 H0 I a b i := by
        intro K' a' b' wA' wB' v' p5 p6 k' hle hI'
        have o' := k'.1
        refine J_iinc o' dL_law_2148 rfl ?_
        rw [(wr_of ⟨by omega, by omega⟩ : wr ((i : Int) + 8) = (i : Int) + 8)]
        refine J_goto 23 o' dL_law_2151 (by decide) ?_
        have h9 := ih (i + 8) a' b' K' wA' wB' v' p5 p6 (by omega) (by omega) k' ⟨by omega, by omega⟩ hI'
        exact h9
      refine J_aldO_n o dL_law_33 rfl ?_
      refine J_iload o dL_law_34 rfl ?_
      refine J_sld (n := i) o g dL_law_36 rfl (by omega) hN ?_
      refine J_bipush o dL_law_37 (by decide) ?_
      refine J_iand o dL_law_39 ?_
      have hr := iand31 (sc X i)
      generalize hx : iand (sc X i) 31 = x at hr ⊢
      have rx : R32 x := ⟨by omega, by omega⟩
      have hrm : a + 1 ≤ room_1.cells ∧ b + 6 ≤ room_1.slots := ⟨by omega, by omega⟩
      by_cases hd : 27 < x
      · refine J_tabO 2148 o dL_law_40 rx (Or.inr hd) (by decide) ?_
        exact hend _ _ _ _ _ _ _ _ k ⟨by omega, by omega⟩ hI
      have hc : x = 0 ∨ x = 1 ∨ x = 2 ∨ x = 3 ∨ x = 4 ∨ x = 5 ∨ x = 6 ∨ x = 7 ∨ x = 8 ∨ x = 9 ∨ x = 10 ∨ x = 11 ∨ x = 12 ∨ x = 13 ∨ x = 14 ∨ x = 15 ∨ x = 16 ∨ x = 17 ∨ x = 18 ∨ x = 19 ∨ x = 20 ∨ x = 21 ∨ x = 22 ∨ x = 23 ∨ x = 24 ∨ x = 25 ∨ x = 26 ∨ x = 27 := by omega
      clear hx hr hd
      rcases hc with rfl | rfl | rfl | rfl | rfl | rfl | rfl | rfl | rfl | rfl | rfl | rfl | rfl | rfl | rfl | rfl | rfl | rfl | rfl | rfl | rfl | rfl | rfl | rfl | rfl | rfl | rfl | rfl
      · exact J_tabI 168 o dL_law_40 rx ⟨by decide, by decide⟩ rfl (by decide) (lz_declare k hrm hi8 hN hI hS.2.1 hend)
      · exact J_tabI 240 o dL_law_40 rx ⟨by decide, by decide⟩ rfl (by decide) (lz_fact k hrm hi8 hN hI hS.2.2.1 hend)
      · exact J_tabI 372 o dL_law_40 rx ⟨by decide, by decide⟩ rfl (by decide) (lz_drop k hrm hi8 hN hI hS.2.2.2.1 hend)
      · exact J_tabI 428 o dL_law_40 rx ⟨by decide, by decide⟩ rfl (by decide) (lz_pass k hrm hi8 hN hI hS.2.2.2.2.1 hend)
      · exact J_tabI 472 o dL_law_40 rx ⟨by decide, by decide⟩ rfl (by decide) (lz_head k hrm hi8 hN hI hS.2.2.2.2.2.1 hend)
      · exact J_tabI 544 o dL_law_40 rx ⟨by decide, by decide⟩ rfl (by decide) (lz_atom k hrm hi8 hN hI hS.2.2.2.2.2.2.1 hend)
      · exact J_tabI 664 o dL_law_40 rx ⟨by decide, by decide⟩ rfl (by decide) (lz_compare k hrm hi8 hN hI hS.2.2.2.2.2.2.2.1 hend)
      · exact J_tabI 744 o dL_law_40 rx ⟨by decide, by decide⟩ rfl (by decide) (lz_add k hrm hi8 hN hI hS.2.2.2.2.2.2.2.2.1 hend)
      · exact J_tabI 824 o dL_law_40 rx ⟨by decide, by decide⟩ rfl (by decide) (lz_clear k hrm hi8 hN hI hS.2.2.2.2.2.2.2.2.2.1 hend)
      · exact J_tabI 837 o dL_law_40 rx ⟨by decide, by decide⟩ rfl (by decide) (lz_enter k hrm hi8 hN hI hS.2.2.2.2.2.2.2.2.2.2.1 hend)
      · exact J_tabI 881 o dL_law_40 rx ⟨by decide, by decide⟩ rfl (by decide) (lz_deny k hrm hi8 hN hI hS.2.2.2.2.2.2.2.2.2.2.2.1 hend)
      · exact J_tabI 925 o dL_law_40 rx ⟨by decide, by decide⟩ rfl (by decide) (lz_remove k hrm hi8 hN hI hS.2.2.2.2.2.2.2.2.2.2.2.2.1 hend)
      · exact J_tabI 981 o dL_law_40 rx ⟨by decide, by decide⟩ rfl (by decide) (lz_holds k hrm hi8 hN hI hS.2.2.2.2.2.2.2.2.2.2.2.2.2.1 hend)
      · exact J_tabI 1080 o dL_law_40 rx ⟨by decide, by decide⟩ rfl (by decide) (lz_holdsAt k hrm hi8 hN hI hS.2.2.2.2.2.2.2.2.2.2.2.2.2.2.1 hend)
      · exact J_tabI 1191 o dL_law_40 rx ⟨by decide, by decide⟩ rfl (by decide) (lz_holdsAnew k hrm hi8 hN hI hS.2.2.2.2.2.2.2.2.2.2.2.2.2.2.2.1 hend)
      · exact J_tabI 1302 o dL_law_40 rx ⟨by decide, by decide⟩ rfl (by decide) (lz_size k hrm hi8 hN hI hS.2.2.2.2.2.2.2.2.2.2.2.2.2.2.2.2.1 hend)
      · exact J_tabI 1358 o dL_law_40 rx ⟨by decide, by decide⟩ rfl (by decide) (lz_at k hrm hi8 hN hI hS.2.2.2.2.2.2.2.2.2.2.2.2.2.2.2.2.2.1 hend)
      · exact J_tabI 1426 o dL_law_40 rx ⟨by decide, by decide⟩ rfl (by decide) (lz_stratum k hrm hi8 hN hI hS.2.2.2.2.2.2.2.2.2.2.2.2.2.2.2.2.2.2.1 hend)
      · exact J_tabI 1482 o dL_law_40 rx ⟨by decide, by decide⟩ rfl (by decide) (lz_ways k hrm hi8 hN hI hS.2.2.2.2.2.2.2.2.2.2.2.2.2.2.2.2.2.2.2.1 hend)
      · exact J_tabI 1574 o dL_law_40 rx ⟨by decide, by decide⟩ rfl (by decide) (lz_cheapest k hrm hi8 hN hI hS.2.2.2.2.2.2.2.2.2.2.2.2.2.2.2.2.2.2.2.2.1 hend)
      · exact J_tabI 1666 o dL_law_40 rx ⟨by decide, by decide⟩ rfl (by decide) (lz_needed k hrm hi8 hN hI hS.2.2.2.2.2.2.2.2.2.2.2.2.2.2.2.2.2.2.2.2.2.1 hend)
      · exact J_tabI 1758 o dL_law_40 rx ⟨by decide, by decide⟩ rfl (by decide) (lz_whyNot k hrm hi8 hN hI hS.2.2.2.2.2.2.2.2.2.2.2.2.2.2.2.2.2.2.2.2.2.2.1 hend)
      · exact J_tabI 1850 o dL_law_40 rx ⟨by decide, by decide⟩ rfl (by decide) (lz_broken k hrm hi8 hN hI hS.2.2.2.2.2.2.2.2.2.2.2.2.2.2.2.2.2.2.2.2.2.2.2.1 hend)
      · exact J_tabI 1863 o dL_law_40 rx ⟨by decide, by decide⟩ rfl (by decide) (lz_repair k hrm hi8 hN hI hS.2.2.2.2.2.2.2.2.2.2.2.2.2.2.2.2.2.2.2.2.2.2.2.2.1 hend)
      · exact J_tabI 1876 o dL_law_40 rx ⟨by decide, by decide⟩ rfl (by decide) (lz_goals k hrm hi8 hN hI hS.2.2.2.2.2.2.2.2.2.2.2.2.2.2.2.2.2.2.2.2.2.2.2.2.2.1 hend)
      · exact J_tabI 1968 o dL_law_40 rx ⟨by decide, by decide⟩ rfl (by decide) (lz_order k hrm hi8 hN hI hS.2.2.2.2.2.2.2.2.2.2.2.2.2.2.2.2.2.2.2.2.2.2.2.2.2.2.1 hend)
      · exact J_tabI 2036 o dL_law_40 rx ⟨by decide, by decide⟩ rfl (by decide) (lz_joins k hrm hi8 hN hI hS.2.2.2.2.2.2.2.2.2.2.2.2.2.2.2.2.2.2.2.2.2.2.2.2.2.2.2.1 hend)
      · exact J_tabI 2092 o dL_law_40 rx ⟨by decide, by decide⟩ rfl (by decide) (lz_indexes k hrm hi8 hN hI hS.2.2.2.2.2.2.2.2.2.2.2.2.2.2.2.2.2.2.2.2.2.2.2.2.2.2.2.2 hend)
/-- from the entry to the loop -/
theorem law_run {I : World → World → Prop} (hS : Sim I) {p : Program} {e : Env} {s : State} {m : MethodId} {below : List Frame} {meth : Method} {c : Code} (l : Launch) (hflags : l.flags = flags0) {b L : Nat} {xs : Nat → Int32} (hL : L ≤ 4096) (C0 : lw_At p s m meth c b L xs) : W p l e room_1 s m #[Value.ref b] below meth c s.heap [] 0 0 (lw_Z below #[Value.ref b] s) (entryFrame m ([Value.ref b] : List Value).toArray 7) := by
  obtain ⟨hx, hb, hr, hml, hown, htt, hX, hbl, hlocks, hgv⟩ := C0
  have hts : ∀ w ∈ GW, w.before #[Value.ref b] s = true := fun w hw => htt w (List.mem_filter.mp hw).1
  have hst : l.stackTraces = false := by
    unfold Launch.stackTraces
    rw [hflags]
    decide
  obtain ⟨D, cI, cZ, c0, c1, cJ, hK⟩ := st_K hts htt
  have hN := st_words htt
  have hXS := st_XS htt hgv
  have hXN := st_XN hgv
  have hXH := st_XH htt hgv
  have hK4 : va_K D vwCl [(cI, .int), (cZ, .boolean), (c0, .object "Datalogmill$Body"), (c1, .object "Datalogmill$Model")] s := va_K.sub hK [0, 1, 2, 3] rfl
  generalize hS0 : ((D, cI, cZ, c0, c1, fun _ => 0) : EE) = S
  have hSD : EE.D S = D := by rw [← hS0]
  have hgd : ∀ (T : TT) (ad : Nat → Nat), T.r0 = "Datalogmill$Body" → T.r1 = "Datalogmill$Model" → T.cl = vwCl → va_K (sad S ad).D T.cl (tysE T (sad S ad)) s := by
    intro T ad h0 h1 h2
    subst hS0
    show va_K D T.cl [(cI, .int), (cZ, .boolean), (c0, .object T.r0), (c1, .object T.r1)] s
    rw [h0, h1, h2]
    exact hK4
  rw [lg_entry_eq]
  obtain ⟨e1, e2⟩ := ent_has (vs := [Value.ref b]) (n := 7) (cd := c) (Nat.le_of_ble_eq_true rfl) hml (fun v hv => by rcases List.mem_cons.mp hv with rfl | h; rfl; cases h)
  have main : Jj (p, l, e, room_1, s, m, #[Value.ref b], below, meth, c, 0, 0, lw_Z below #[Value.ref b] s) (WdT (tr TA 0) (sad S (fun _ => 0)) s.heap) w00 0 (entL [Value.ref b] 7) [] := by
    generalize hK0 : ((p, l, e, room_1, s, m, #[Value.ref b], below, meth, c, 0, 0, lw_Z below #[Value.ref b] s) : KT) = K
    have o : Ok K cL_law "DatalogmillLaw" room_1 := by subst hK0; exact ⟨hx, hb, hown, hts, hlocks, rfl⟩
    have hkS : kS K = s := by subst hK0; rfl
    have hkL : kL K = l := by subst hK0; rfl
    have kc : KC K 0 0 := by subst hK0; exact ⟨rfl, rfl⟩
    have hG : ∀ (K' : KT), KSim K K' → kS K' = s := by
      rintro K' ⟨x, y, rfl⟩
      exact hkS
    have g0 : Gd (tr TA 0) (sad S (fun _ => 0)) K := ⟨by rw [hkS]; exact hgd _ _ rfl rfl rfl, Inj_0, tr_Tn TnA 0, by rw [hkS]; exact hN⟩
    -- the class's object
    refine J_newL (κ := 11) (n := 0) o TnA g0 kc dL_law_0 mw183 mw184 mw163 rfl inWX10 tyX10_ok kA_1 ⟨by decide, by decide⟩ dfX10 Zn00 Rn00 (a' := 1) (b' := 13) rfl rfl ⟨Nat.le_of_ble_eq_true rfl, Nat.le_of_ble_eq_true rfl⟩ ?_
    intro K1 ad1 q1 sim1 o1 kc1 ag1 hq1 g1
    refine J_dup o1 dL_law_3 rfl ?_
    refine J_initL (n := 1) (n' := 157) o1 TnA g1 kc1 dL_law_4 lkL_100 ml_Dm_init mw186 rfl ⟨Nat.le_of_ble_eq_true rfl, Nat.le_of_ble_eq_true rfl⟩ (b1 := q1) (vs' := []) (c_Dm_init g1.2.1 Zn00 Rn00) (by rw [hq1]) rfl (by omega) rfl (c1s_a c1s_0 (Nat.le_of_ble_eq_true rfl)) (a' := 157) (b' := 3900) rfl rfl ⟨Nat.le_of_ble_eq_true rfl, Nat.le_of_ble_eq_true rfl⟩ ?_
    intro K2 adA sim2 o2 kc2 ag2 g2
    refine J_astO_n o2 dL_law_7 (Nat.le_of_ble_eq_true rfl) ?_
    have simA := sim1.trans sim2
    have agA : Ag 0 157 s.heap.size (fun _ => 0) adA := Ag.trans ag1 ag2 (by omega) (Nat.le_refl _)
    have hadA : ∀ c : Nat, c ≠ 0 → c ≤ TA.nn → s.heap.size ≤ adA c := fun c h0 h1 => agA.2 c (by omega) h1
    have hqA : adA 1 = q1 := (ag2.1 1 (by omega)).trans hq1
    have gA : Inj TA (sad S adA) := Inj_full rfl g2.2.1
    clear g1 ag1 ag2 sim1 sim2 o1 kc1 g0 kc
    -- what stands then
    suffices hB : ∀ H : Heap, RW wA0 → va_P (EE.D S) vwCl (wsl TA (sad S adA) wA0) H → s.heap.size ≤ H.size → (∀ q, q < s.heap.size → H[q]? = s.heap[q]?) → Jj K2 (WdT (tr TB 0) (sad S (fun _ => 0)) H) w00 8 ((entL [Value.ref b] 7).set 1 (some (.ref q1))) [] by
      obtain ⟨x, y, rfl⟩ := simA
      subst hK0
      intro H locs ls hW hl hc
      obtain ⟨hRW, -, hP, hz, hk, hlo⟩ := hW
      have hP' : va_P (EE.D S) vwCl (wsl (tr TA 157) (sad S adA) wA0) H := hP
      rw [wsl_full (show TA.nn = 157 from rfl)] at hP'
      have hAz : ∀ q, AA (tr TA 157) (sad S adA) s.heap.size q → s.heap.size ≤ q := AA_Z (T := tr TA 157) (Nat.le_refl _) (fun c h0 h1 => hadA c h0 h1)
      refine va_forget (fun q hq => hAz _ (hlo q hq)) ?_
      exact hB H hRW hP' hz (fun q hq => hk q hq (fun h => absurd hq (Nat.not_lt.mpr (hAz q h)))) H [] ls ⟨RW00, tr_Fx, fun k q h => (by cases h), va_S.rf⟩ hl hc
    intro H hRA hPA hzA hkA
    have g3 : Gd (tr TB 0) (sad S (fun _ => 0)) K2 := ⟨by rw [hG _ simA]; exact hgd _ _ rfl rfl rfl, Inj_0, tr_Tn TnB 0, by rw [hG _ simA]; exact hN⟩
    refine J_newL (κ := 12) (n := 0) o2 TnB g3 kc2 dL_law_8 mw1358 mw1359 mw174 rfl inWX11 tyX11_ok kB_1 ⟨by decide, by decide⟩ dfX11 Zn00 Rn00 (a' := 158) (b' := 3938) rfl rfl ⟨Nat.le_of_ble_eq_true rfl, Nat.le_of_ble_eq_true rfl⟩ ?_
    intro K3 ad3 q3 sim3 o3 kc3 ag3 hq3 g3
    refine J_dup o3 dL_law_11 rfl ?_
    refine J_initL (n := 1) (n' := 30) o3 TnB g3 kc3 dL_law_12 lkL_103 ml_Re_init mw1361 rfl ⟨Nat.le_of_ble_eq_true rfl, Nat.le_of_ble_eq_true rfl⟩ (b1 := q3) (vs' := []) (c_Re_init g3.2.1 Zn00 Rn00) (by rw [hq3]) rfl (by omega) rfl (c1s_a c1s_0 (Nat.le_of_ble_eq_true rfl)) (a' := 187) (b' := 7448) rfl rfl ⟨Nat.le_of_ble_eq_true rfl, Nat.le_of_ble_eq_true rfl⟩ ?_
    intro K4 adB sim4 o4 kc4 ag4 g4
    refine J_astO_n o4 dL_law_15 (Nat.le_of_ble_eq_true rfl) ?_
    have simB := (simA.trans sim3).trans sim4
    have agB : Ag 0 30 H.size (fun _ => 0) adB := Ag.trans ag3 ag4 (by omega) (Nat.le_refl _)
    have hadB : ∀ c : Nat, c ≠ 0 → c ≤ TB.nn → H.size ≤ adB c := fun c h0 h1 => agB.2 c (by omega) h1
    have hqB : adB 1 = q3 := (ag4.1 1 (by omega)).trans hq3
    have gB : Inj TB (sad S adB) := Inj_full rfl g4.2.1
    suffices hC : ∀ H1 : Heap, RW wB0 → va_P (EE.D S) vwCl (wsl TA (sad S adA) wA0) H1 → va_P (EE.D S) vwCl (wsl TB (sad S adB) wB0) H1 → s.heap.size ≤ H1.size → (∀ q, q < s.heap.size → H1[q]? = s.heap[q]?) → Jj K4 (WdH H1) () 16 (((entL [Value.ref b] 7).set 1 (some (.ref q1))).set 2 (some (.ref q3))) [] by
      obtain ⟨x, y, rfl⟩ := simB
      subst hK0
      intro H1 locs ls hW hl hc
      obtain ⟨hRW, -, hP, hz, hk, hlo⟩ := hW
      have hP' : va_P (EE.D S) vwCl (wsl (tr TB 30) (sad S adB) wB0) H1 := hP
      rw [wsl_full (show TB.nn = 30 from rfl)] at hP'
      have hAz : ∀ q, AA (tr TB 30) (sad S adB) H.size q → H.size ≤ q := AA_Z (T := tr TB 30) (Nat.le_refl _) (fun c h0 h1 => hadB c h0 h1)
      refine va_forget (fun q hq => Nat.le_trans hzA (hAz _ (hlo q hq))) ?_
      have hkk : ∀ q, q < H.size → H1[q]? = H[q]? := fun q hq => hk q hq (fun h => absurd hq (Nat.not_lt.mpr (hAz q h)))
      exact hC H1 hRW (keepP hPA (fun c h0 h1 hlt => hkk _ hlt)) hP' (Nat.le_trans hzA hz) (fun q hq => (hkk q (Nat.lt_of_lt_of_le hq hzA)).trans (hkA q hq)) H1 [] ls ⟨rfl, rfl⟩ hl hc
    intro H1 hRB hPA1 hPB1 hz1 hk1
    refine J_iconst o4 dL_law_16 ?_
    have hK4s : va_K (EE.D S) vwCl (TYS cI cZ c0 c1 cJ) (kS K4) := by rw [hG _ simB, hSD]; exact hK
    refine J_newJ (tys := TYS cI cZ c0 c1 cJ) (cJ := cJ) o4 hK4s rfl kc4 dL_law_17 mw1819 ⟨Nat.le_of_ble_eq_true rfl, Nat.le_of_ble_eq_true rfl⟩ (fun H2 hO hz2 hk2 => ?_)
    have o5 : Ok (kAdd K4 1 1) cL_law "DatalogmillLaw" room_1 := OkO.add o4
    refine J_astO_n o5 dL_law_19 (Nat.le_of_ble_eq_true rfl) ?_
    refine J_iconst o5 dL_law_20 ?_
    refine J_istore o5 dL_law_21 (Nat.le_of_ble_eq_true rfl) ?_
    -- the loop
    have hPA2 := keepP hPA1 (fun c h0 h1 hlt => hk2 _ hlt)
    have hPB2 := keepP hPB1 (fun c h0 h1 hlt => hk2 _ hlt)
    have hltA : ∀ c : Nat, c ≠ 0 → c ≤ TA.nn → adA c < H.size := fun c h0 h1 => vx_lt hPA (wsl_get (T := TA) (E := sad S adA) h0 h1)
    have hltA1 : ∀ c : Nat, c ≠ 0 → c ≤ TA.nn → adA c < H1.size := fun c h0 h1 => vx_lt hPA1 (wsl_get (T := TA) (E := sad S adA) h0 h1)
    have hltB1 : ∀ c : Nat, c ≠ 0 → c ≤ TB.nn → adB c < H1.size := fun c h0 h1 => vx_lt hPB1 (wsl_get (T := TB) (E := sad S adB) h0 h1)
    have sim5 : KSim K (kAdd K4 1 1) := simB.add
    have kS5 : kS (kAdd K4 1 1) = s := hG _ sim5
    have gZ : GdZ (S, adA, adB, (cJ, H1.size), b, L, xs) (kAdd K4 1 1) s.heap := by
      refine ⟨⟨?_, by rw [kS5]; exact hN, by rw [kS5]; exact hXS, by rw [kS5]; exact hXN⟩, ⟨gA, gB, fun c h0 h1 => Nat.ne_of_lt (hltA1 c h0 h1), fun c h0 h1 => Nat.ne_of_lt (hltB1 c h0 h1), fun c c' h0 h1 h2 h3 => Nat.ne_of_lt (Nat.lt_of_lt_of_le (hltA c h0 h1) (hadB c' h2 h3))⟩, ⟨hadA, fun c h0 h1 => Nat.le_trans hzA (hadB c h0 h1), hz1⟩, by rw [kS5]; exact hXH, by rw [kS5], by rw [kS5]; exact hX, hbl⟩
      rw [kS5]
      subst hS0
      exact hK
    have kL5 : kL (kAdd K4 1 1) = l := by
      obtain ⟨x, y, hxy⟩ := sim5
      rw [hxy]
      exact hkL
    have k5 : LawK (S, adA, adB, (cJ, H1.size), b, L, xs) K (kAdd K4 1 1) s.heap 188 7449 := ⟨o5, gZ, kc4.add, by rw [kL5]; exact hst, sim5⟩
    have hloop := law_loop (X := (S, adA, adB, (cJ, H1.size), b, L, xs)) (K0 := K) (H0 := s.heap) hS hL (fun K' a' b' z i o5 o6 k' hle => by
      have o' := k'.1
      have kc' := k'.2.2.1
      obtain ⟨x, y, rfl⟩ := k'.2.2.2.2
      subst hK0
      refine J_iconst o' dL_law_2154 ?_
      intro H9 locs9 ls9 hW9 hl9 hc9
      refine va_forget (fun q hq => hW9.2.2.2.2.2 q hq) ?_
      have h1 : 0 + x ≤ 601024 := Nat.le_trans (Nat.le_of_eq kc'.1) hle.1
      have h2 : 0 + y ≤ 7293034 := Nat.le_trans (Nat.le_of_eq kc'.2) hle.2
      refine W.widen (k := 601024) (n := 7293034) h1 h2 ?_
      exact lw_ret hx hb hr hlocks dL_law_2155) (L + 1) 0 188 7449 (kAdd K4 1 1) wA0 wB0 (fun _ => 0) none none (by show L < 0 + (L + 1); omega) (Nat.zero_le _) k5 ⟨by show 188 + (L + 1) ≤ 601024; omega, by show 7449 + 6 * (L + 1) ≤ 7293034; omega⟩ hS.1
    intro H9 locs9 ls9 hW9 hl9 hc9
    obtain ⟨rfl, rfl⟩ := hW9
    have eL : ((((entL [Value.ref b] 7).set 1 (some (.ref q1))).set 2 (some (.ref q3))).set 3 (some (.ref H1.size))).set 4 (some (.int (ii 0))) = lawL (S, adA, adB, (cJ, H1.size), b, L, xs) 0 none none := by
      have r1 : Value.ref q1 = rf (sad S adA).ad 1 := rfa (S := S) hqA (by omega)
      have r3 : Value.ref q3 = rf (sad S adB).ad 1 := rfa (S := S) hqB (by omega)
      rw [r1, r3]
      rfl
    have hl9' : hasL _ ls9 (lawL (S, adA, adB, (cJ, H1.size), b, L, xs) 0 none none) := eL ▸ hl9
    have hc9' : ∀ q ∈ ascL (lawL (S, adA, adB, (cJ, H1.size), b, L, xs) 0 none none), q.2.category = 1 := eL ▸ hc9
    refine hloop H9 [] ls9 ⟨⟨hRA, FxA0⟩, ⟨hRB, FxB0⟩, ⟨hPA2, hPB2, hO⟩, by rw [hz2]; omega, fun q h1 h2 => (hk2 q (Nat.lt_of_lt_of_le h1 hz1)).trans (hk1 q h1), fun q hq => (by cases hq)⟩ hl9' hc9'
  exact main s.heap [] _ ⟨RW00, tr_Fx, fun k q h => (by cases h), va_S.rf⟩ e1 e2
