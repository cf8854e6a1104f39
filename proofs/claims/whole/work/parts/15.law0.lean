/-! THE LAW'S WRAPPERS: a world beside a row of one long; calls that may throw, and are caught -/
def outE (cJ : ClassId) (v : Nat → Int64) : va_E := .inl (cJ, 1, .inr (.inl v))
def lsW (T : TT) (E : EE) (cJ : ClassId) (oa : Nat) (w : World) (v : Nat → Int64) : va_W := wsl T E w ++ [(oa, outE cJ v)]
def AL (T : TT) (E : EE) (oa sz : Nat) : Nat → Prop := fun q => AA T E sz q ∨ q = oa
abbrev OO : Type := ClassId × Nat
def WdO (T : TT) (E : EE) (O : OO) (H0 : Heap) : World × (Nat → Int64) → Heap → List Loc → Prop := fun z H locs => RW z.1 ∧ Fx T z.1 ∧ va_P E.D T.cl (lsW T E O.1 O.2 z.1 z.2) H ∧ va_S (AL T E O.2 H0.size) H0 H locs
/-- the three exceptions are none another -/
def XNs (U : State) : Prop := ∀ a b : Nat, (a = 1 ∨ a = 2 ∨ a = 3) → (b = 1 ∨ b = 2 ∨ b = 3) → a ≠ b → va_Nc (xName a) (xName b) U
theorem XNs.warm {s U : State} (hW : s.WarmedH U.vm) (h : XNs s) : XNs U := fun a b ha hb hn => va_Nc.moved hW.alike (h a b ha hb hn)
theorem XNs.same {s U : State} (hv : s.vm = U.vm) (h : XNs s) : XNs U := XNs.warm (hv ▸ State.WarmedH.refl s) h
def PreO (T : TT) (E : EE) (O : OO) (z : World × (Nat → Int64)) (sz : Nat) (U : State) : Prop := U.heap.size = sz ∧ (RW z.1 ∧ Fx T z.1 ∧ va_P E.D T.cl (lsW T E O.1 O.2 z.1 z.2) U.heap) ∧ (va_K E.D T.cl (tysE T E ++ [(O.1, .long)]) U ∧ NWs U ∧ XS U ∧ XNs U) ∧ XH (AL T E O.2 sz) U U.heap
theorem PreO_blind {T : TT} {E : EE} {O : OO} {z : World × (Nat → Int64)} {sz : Nat} {vs : List Value} : FrameBlind (va_Pc vs (PreO T E O z sz)) := fun a U g mk q => by
  obtain ⟨q0, q1, q2, ⟨qK, qN, qX, qY⟩, qH⟩ := q
  exact ⟨q0, q1, q2, ⟨va_K.moved (u := U) (U := U.calling g mk a) (Vm.Alike.refl U.vm) qK, qN.same rfl, XS.same (s := U) (U := U.calling g mk a) rfl qX, XNs.same (s := U) (U := U.calling g mk a) rfl qY⟩, XH.moved (u := U) (U := U.calling g mk a) (Vm.Alike.refl U.vm) qH⟩
/-- the row of one long lies apart -/
def Ap (T : TT) (E : EE) (oa : Nat) : Prop := ∀ c : Nat, c ≠ 0 → c ≤ T.nn → E.ad c ≠ oa
def kC (K : KT) : Code := K.2.2.2.2.2.2.2.2.2.1
def GdO (T : TT) (E : EE) (O : OO) (K : KT) (H0 : Heap) (hh : List (Nat × Nat × Nat × Nat)) : Prop := (va_K E.D T.cl (tysE T E ++ [(O.1, .long)]) (kS K) ∧ NWs (kS K) ∧ XS (kS K) ∧ XNs (kS K)) ∧ (Inj T E ∧ Tn T ∧ Ap T E O.2) ∧ XH (AL T E O.2 H0.size) (kS K) H0 ∧ (kS K).heap = H0 ∧ (kC K).exceptionTable.toList = tableOf hh ∧ O.2 < H0.size
/-- what is thrown here is to be caught -/
def Jx {ω : Type} (K : KT) (Wd : ω → Heap → List Loc → Prop) (w : ω) (pc : Nat) (L : List (Option Value)) (n : Nat) : Prop :=
  match K with
  | (p, l, e, R, s, m, args, below, meth, c, cells, slots, Q) => ∀ (H : Heap) (locs : List Loc) (ls : Array Slot) (q : Addr) (ce : Cell) (rest : List Value), Wd w H locs → hasL c ls L → (∀ q ∈ ascL L, q.2.category = 1) → H[q]? = some ce → ce.vm = .none → s.vm.findClass (xName n) = some ce.cls → vx_W p l e R s m args below meth c H locs cells slots Q (F0 m pc ls rest) q
def ConO (T : TT) (E : EE) (O : OO) (l : Launch) (y : MethodName) (ws : List Cond) (rm : Room) (vs : List Value) (z : World × (Nat → Int64)) (out : World × Nat × Int) (ov : Bool) (hm : Nat → Int) : Prop :=
  ∀ sz : Nat, vx_Met l y ws rm (va_Pc vs (PreO T E O z sz)) (va_Qi (fun (r : Int32) (u : Nat → Int64) => r.toInt = hm out.2.1 ∧ (ov = true → out.2.1 = 0 → (u 0).toInt = out.2.2)) (fun u t => RW out.1 ∧ Fx T out.1 ∧ va_P E.D T.cl (lsW T E O.1 O.2 out.1 u) t.heap) (AL T E O.2 sz)) (vx_X (fun (_ : Unit) => False) (fun _ _ _ => True) (AL T E O.2 sz)) 1 6 (AL T E O.2 sz)
section JO
variable {T : TT} {E : EE} {O : OO} {K : KT} {w : World} {v : Nat → Int64} {H0 : Heap} {pc idx : Nat} {L : List (Option Value)} {st vs : List Value} {cc bytes : ByteArray} {own : String} {rm rm' : Room} {y : MethodName} {maxL np : Nat} {ret : Option FieldType} {b κ : Nat} {hh : List (Nat × Nat × Nat × Nat)}
theorem J_aldO {ω : Type} {Wd : ω → Heap → List Loc → Prop} {w : ω} {i : Nat} {x : Nat} (o : Ok K cc own rm) (d : decode cc pc = .ok (.aload i, 2)) (hv : L[i]? = some (some (.ref x))) (k : Jj K Wd w (pc + 2) L (.ref x :: st)) : Jj K Wd w pc L st := by
  obtain ⟨p, l, e, R, s, m, args, below, meth, c, cells, slots, Q⟩ := K
  intro H locs ls hW hl hc
  exact lv_aload o.1 o.2.1 d (hl.2.2.2 _ _ hv) (k H locs ls hW hl hc)
theorem J_aldO_n {ω : Type} {Wd : ω → Heap → List Loc → Prop} {w : ω} {i : Fin 4} {x : Nat} (o : Ok K cc own rm) (d : decode cc pc = .ok (.aload_n i, 1)) (hv : L[(i : Nat)]? = some (some (.ref x))) (k : Jj K Wd w (pc + 1) L (.ref x :: st)) : Jj K Wd w pc L st := by
  obtain ⟨p, l, e, R, s, m, args, below, meth, c, cells, slots, Q⟩ := K
  intro H locs ls hW hl hc
  exact lv_aload_n o.1 o.2.1 d rfl (hl.2.2.2 _ _ hv) (k H locs ls hW hl hc)
theorem J_astO {ω : Type} {Wd : ω → Heap → List Loc → Prop} {w : ω} {i : Nat} {x : Nat} (o : Ok K cc own rm) (d : decode cc pc = .ok (.astore i, 2)) (hi : i < L.length) (k : Jj K Wd w (pc + 2) (L.set i (some (.ref x))) st) : Jj K Wd w pc L (.ref x :: st) := by
  obtain ⟨p, l, e, R, s, m, args, below, meth, c, cells, slots, Q⟩ := K
  intro H locs ls hW hl hc
  exact lv_astore o.1 o.2.1 d hl.has (by rw [← hl.2.1]; exact hi) rfl (fun ls' h' => k H locs ls' hW (hl.put hc h') (asc_set rfl hc))
theorem J_astO_n {ω : Type} {Wd : ω → Heap → List Loc → Prop} {w : ω} {i : Fin 4} {x : Nat} (o : Ok K cc own rm) (d : decode cc pc = .ok (.astore_n i, 1)) (hi : (i : Nat) < L.length) (k : Jj K Wd w (pc + 1) (L.set (i : Nat) (some (.ref x))) st) : Jj K Wd w pc L (.ref x :: st) := by
  obtain ⟨p, l, e, R, s, m, args, below, meth, c, cells, slots, Q⟩ := K
  intro H locs ls hW hl hc
  exact lv_astore_n o.1 o.2.1 d rfl hl.has (by rw [← hl.2.1]; exact hi) rfl (fun ls' h' => k H locs ls' hW (hl.put hc h') (asc_set rfl hc))
theorem i2l_toInt {x : Int} (h : R32 x) : (ii x).toInt64.toInt = x := by rw [Int32.toInt_toInt64]; exact ii_toInt h
theorem J_i2l {ω : Type} {Wd : ω → Heap → List Loc → Prop} {w : ω} {x : Int} (o : Ok K cc own rm) (d : decode cc pc = .ok (.i2l, 1)) (hx : R32 x) (k : ∀ u : Int64, u.toInt = x → Jj K Wd w (pc + 1) L (.long u :: st)) : Jj K Wd w pc L (.int (ii x) :: st) := by
  have k := k _ (i2l_toInt hx)
  obtain ⟨p, l, e, R, s, m, args, below, meth, c, cells, slots, Q⟩ := K
  intro H locs ls hW hl hc
  exact lv_i2l o.1 o.2.1 d rfl (k H locs ls hW hl hc)
theorem J_lc0 {ω : Type} {Wd : ω → Heap → List Loc → Prop} {w : ω} (o : Ok K cc own rm) (d : decode cc pc = .ok (.lconst 0, 1)) (k : ∀ u : Int64, u.toInt = 0 → Jj K Wd w (pc + 1) L (.long u :: st)) : Jj K Wd w pc L st := by
  have k := k 0 rfl
  obtain ⟨p, l, e, R, s, m, args, below, meth, c, cells, slots, Q⟩ := K
  intro H locs ls hW hl hc
  exact lv_lconst o.1 o.2.1 d rfl (k H locs ls hW hl hc)
theorem J_lc1 {ω : Type} {Wd : ω → Heap → List Loc → Prop} {w : ω} (o : Ok K cc own rm) (d : decode cc pc = .ok (.lconst 1, 1)) (k : ∀ u : Int64, u.toInt = 1 → Jj K Wd w (pc + 1) L (.long u :: st)) : Jj K Wd w pc L st := by
  have k := k 1 rfl
  obtain ⟨p, l, e, R, s, m, args, below, meth, c, cells, slots, Q⟩ := K
  intro H locs ls hW hl hc
  exact lv_lconst o.1 o.2.1 d rfl (k H locs ls hW hl hc)
theorem wsl_len {T : TT} {E : EE} {w : World} : (wsl T E w).length = T.nn := by unfold wsl; rw [List.length_map, List.length_range]
theorem lsW_last {T : TT} {E : EE} {cJ : ClassId} {oa : Nat} {w : World} {v : Nat → Int64} : (lsW T E cJ oa w v)[T.nn]? = some (oa, outE cJ v) := by
  unfold lsW
  rw [List.getElem?_append_right (by rw [wsl_len]; exact Nat.le_refl _), wsl_len, Nat.sub_self]
  rfl
theorem lsW_D {T : TT} {E : EE} {cJ : ClassId} {oa sz : Nat} {w : World} {v : Nat → Int64} (hi : Inj T E) (ha : Ap T E oa) : va_D (AL T E oa sz) (lsW T E cJ oa w v) := by
  have key : ∀ (i : Nat) (q : Nat × va_E), (lsW T E cJ oa w v)[i]? = some q → (i < T.nn ∧ q.1 = E.ad (i + 1)) ∨ (i = T.nn ∧ q.1 = oa) := by
    intro i q h
    by_cases hlt : i < T.nn
    · unfold lsW at h
      rw [List.getElem?_append_left (by rw [wsl_len]; exact hlt)] at h
      obtain ⟨h1, rfl⟩ := wsl_spec h
      exact Or.inl ⟨h1, rfl⟩
    · have hl : i < (lsW T E cJ oa w v).length := (List.getElem?_eq_some_iff.mp h).1
      unfold lsW at hl
      rw [List.length_append, wsl_len] at hl
      have hl' : i < T.nn + 1 := hl
      have e : i = T.nn := by omega
      subst e
      rw [lsW_last] at h
      cases h
      exact Or.inr ⟨rfl, rfl⟩
  refine ⟨fun i j p q hp hq hpq => ?_, fun k q hk => ?_⟩
  · rcases key i p hp with ⟨h1, e1⟩ | ⟨h1, e1⟩ <;> rcases key j q hq with ⟨h2, e2⟩ | ⟨h2, e2⟩
    · have := hi (i + 1) (j + 1) (by omega) (by omega) (by omega) (by omega) (by rw [← e1, ← e2]; exact hpq)
      omega
    · exact absurd (by rw [← e1, hpq, e2]) (ha (i + 1) (by omega) (by omega))
    · exact absurd (by rw [← e2, ← hpq, e1]) (ha (j + 1) (by omega) (by omega))
    · omega
  · rcases key k q hk with ⟨h1, e1⟩ | ⟨h1, e1⟩
    · exact Or.inl (Or.inl ⟨k + 1, by omega, by omega, e1⟩)
    · exact Or.inr e1
theorem lsW_set {T : TT} {E : EE} {cJ : ClassId} {oa : Nat} {w : World} {v u : Nat → Int64} : (lsW T E cJ oa w v).set T.nn (oa, outE cJ u) = lsW T E cJ oa w u := by
  unfold lsW
  rw [List.set_append_right _ _ (by rw [wsl_len]; exact Nat.le_refl _), wsl_len, Nat.sub_self]
  rfl
/-- the row of one long is written -/
theorem J_last {x : Int} {u : Int64} (o : Ok K cc own rm) (g : GdO T E O K H0 hh) (d : decode cc pc = .ok (.lastore, 1)) (hx : x = 0) (k : ∀ f : Nat → Int64, f 0 = u → Jj K (WdO T E O H0) (w, f) (pc + 1) L st) : Jj K (WdO T E O H0) (w, v) pc L (.long u :: .int (ii x) :: .ref O.2 :: st) := by
  subst hx
  have k := k (vp_updL v (ii 0).toNatClampNeg u) (if_pos rfl)
  obtain ⟨p, l, e, R, s, m, args, below, meth, c, cells, slots, Q⟩ := K
  intro H locs ls hW hl hc
  obtain ⟨hR, hF, hP, hS⟩ := hW
  obtain ⟨⟨gK, -⟩, ⟨gI, -, gA⟩, -⟩ := g
  refine va_last (D := E.D) (cl := T.cl) (A := AL T E O.2 H0.size) (tys := tysE T E ++ [(O.1, .long)]) o.1 o.2.1 gK hP (lsW_D gI gA) hS T.nn 4 lsW_last rfl (vp_in_ii ⟨by decide, by decide⟩ (by decide)) d (fun H1 locs1 hP1 _ hS1 => ?_)
  have hP2 : va_P E.D T.cl (lsW T E O.1 O.2 w (vp_updL v (ii 0).toNatClampNeg u)) H1 := by rw [← lsW_set (v := v)]; exact hP1
  exact k H1 locs1 ls ⟨hR, hF, hP2, hS1⟩ hl hc
/-- the rows ahead of one in the table name other classes -/
def aheadOk (n : Nat) (pre : List (Nat × Nat × Nat × Nat)) : Prop := ∀ z ∈ pre, z.2.2.2 ≠ 0 ∧ ∃ a : Nat, (a = 1 ∨ a = 2 ∨ a = 3) ∧ n ≠ a ∧ Cond.classLink "DatalogmillLaw" z.2.2.2 (xName a) ∈ GW
theorem J_catch {n : Nat} {w : World × (Nat → Int64)} (o : Ok K cc "DatalogmillLaw" rm) (g : GdO T E O K H0 hh) (pre : List (Nat × Nat × Nat × Nat)) (x : Nat × Nat × Nat × Nat) (suf : List (Nat × Nat × Nat × Nat)) (hs : hh = pre ++ x :: suf) (hn : n = 1 ∨ n = 2 ∨ n = 3) (hp : aheadOk n pre) (hx : x.1 ≤ pc ∧ pc < x.2.1) (h0 : x.2.2.2 ≠ 0) (hlk : Cond.classLink "DatalogmillLaw" x.2.2.2 (xName n) ∈ GW)
    (kk : ∀ q : Nat, Jj K (WdO T E O H0) w x.2.2.1 L [.ref q]) : Jx K (WdO T E O H0) w pc L n := by
  obtain ⟨p, l, e, R, s, m, args, below, meth, c, cells, slots, Q⟩ := K
  intro H locs ls q ce rest hW hl hc hce hcv hcl
  obtain ⟨⟨gK, gN, gX, gY⟩, -, -, -, gT, -⟩ := g
  have gT : c.exceptionTable.toList = tableOf hh := gT
  refine vx_catch (own := "DatalogmillLaw") (name := xName n) (E := xName n) o.2.2.1 (tableOf pre) ⟨x.1, x.2.1, x.2.2.1, x.2.2.2⟩ (tableOf suf) (by rw [gT, hs]; unfold tableOf; rw [List.map_append, List.map_cons]) (fun z hz => ?_) ?_ h0 (o.2.2.2.1 _ hlk) ?_ hce hcv hcl (kk q H locs ls hW hl hc)
  · unfold tableOf at hz
    obtain ⟨z0, hz0, rfl⟩ := List.mem_map.mp hz
    obtain ⟨h1, a, ha, hna, hlk2⟩ := hp z0 hz0
    exact Or.inr ⟨h1, xName a, o.2.2.2.1 _ hlk2, gY n a hn ha hna⟩
  · unfold covers
    simp [hx.1, hx.2]
  · have hm : Cond.castable (xName n) (xName n) ∈ xOther := by
      rcases hn with rfl | rfl | rfl <;> simp [xOther]
    refine va_Nw.use ?_ (gX.1 _ hm)
    rfl
theorem AA_AL {H H0 : Heap} {oa : Nat} (h : H0.size ≤ H.size) : ∀ q, AA T E H.size q → AL T E oa H0.size q := fun q h1 => Or.inl (AA_sub h q h1)
theorem lsW_join {cJ : ClassId} {oa : Nat} {w' : World} {H H1 : Heap} (ha : Ap T E oa) (hoa : oa < H.size) (h0 : va_P E.D T.cl (lsW T E cJ oa w v) H) (h : va_P E.D T.cl (wsl T E w') H1) (hk : ∀ q : Nat, q < H.size → ¬ AA T E H.size q → H1[q]? = H[q]?) : va_P E.D T.cl (lsW T E cJ oa w' v) H1 := by
  refine va_P.app h (fun k q hq => ?_)
  have h1 := h0 T.nn _ lsW_last
  cases k with
  | zero =>
    cases hq
    have hna : ¬ AA T E H.size oa := by
      rintro (⟨c, c0, c1, e⟩ | e)
      · exact ha c c0 c1 e.symm
      · exact absurd hoa (Nat.not_lt.mpr e)
    exact (hk oa hoa hna).trans h1
  | succ k => cases hq
/-- a call that may throw -/
theorem J_xI {out : World × Nat × Int} {stk : List Value} (o : Ok K cc own rm) (g : GdO T E O K H0 hh) (kc : KC K 0 0) (d : decode cc pc = .ok (.invokevirtual idx, 3)) (lk : Cond.methodLink own idx y ∈ GW) (ml : ML y bytes maxL ret np) (vl : VL y) (hrm : rm'.cells = 1 ∧ rm'.slots = 6 ∧ rm'.frames + 1 ≤ rm.frames ∧ 8 + (maxL + 11) + rm'.locals ≤ rm.locals) (hroom : 1 ≤ rm.cells ∧ 6 ≤ rm.slots)
    (hM : ConXI T E (kL K) y (WS y bytes maxL ret) rm' (rf E.ad b :: vs) w out) (hb : T.kd b = κ) (hcn : (T.cl[κ - 1]?).map (fun q => q.1) = some y.cls) (hκ : 0 < κ ∧ κ < 40) (hn : vs.length = np) (hk : stk = vs.reverse ++ rf E.ad b :: st) (hst : c1s st)
    (kk : out.2.1 = 0 → R32 out.2.2 → Jj (kAdd K 1 6) (WdO T E O H0) (out.1, v) (pc + 3) L (.int (ii out.2.2) :: st)) (kx : out.2.1 ≠ 0 → Jx (kAdd K 1 6) (WdO T E O H0) (out.1, v) pc L out.2.1) : Jj K (WdO T E O H0) (w, v) pc L stk := by
  subst hk
  obtain ⟨p, l, e, R, s, m, args, below, meth, cd, cells, slots, Q⟩ := K
  intro H locs ls hW hl hc
  obtain ⟨hR, hF, hP, hS⟩ := hW
  obtain ⟨⟨gK, gN, gX, gY⟩, ⟨gI, gT, gA⟩, gH, gh, gTb, goa⟩ := g
  have gh : s.heap = H0 := gh
  subst gh
  obtain ⟨c0, c1⟩ := gT b (by omega)
  have hPw : va_P E.D T.cl (wsl T E w) H := fun k q hq => hP k q (by
    unfold lsW
    rw [List.getElem?_append_left (List.getElem?_eq_some_iff.mp hq).1]
    exact hq)
  have gK1 : va_K E.D T.cl (tysE T E) s := va_K.sub gK [0, 1, 2, 3] rfl
  have hM := hM H.size
  rw [rf_p c0] at hM ⊢
  have he := wsl_get (E := E) (w := w) c0 c1
  rw [cel_obj hb hκ.2] at he
  obtain ⟨q, hq, hq1⟩ := Option.map_eq_some_iff.mp hcn
  have hrv := va_recv gK1 hPw hq he
  rw [hq1] at hrv
  obtain ⟨m1, m2, m3, m4, m5⟩ := ml
  have hts := o.2.2.2.1
  have hRr : R = rm := o.2.2.2.2.2
  have hlen : ∀ sig, parseMethodDescriptor y.desc = some sig → np = sig.parameters.length := fun sig h => by
    rw [h] at m5
    exact (Option.some.inj m5).symm
  have hxh : XH (AA T E H.size) s H := (gH.kept hS.2.1).narrow (AA_AL hS.1)
  have hpre : PreV s H y.cls (E.ad b) (va_Pc (Value.ref (E.ad b) :: vs) (PreX T E w H.size)) vs := ⟨PreX_blind, hrv, fun U hU hWm => ⟨rfl, ⟨by rw [hU], hR, hF, by rw [hU]; exact hPw, va_K.moved hWm.alike gK1, gN.warm hWm⟩, gX.warm hWm, by rw [hU]; exact hxh.moved hWm.alike⟩⟩
  have e0 : cells = 0 := kc.1
  have e1 : slots = 0 := kc.2
  have run := vx_runV (p := p) (l := l) (e := e) (R := R) (s := s) (m := m) (args := args) (below := below) (meth := meth) (c := cd) (H := H) (locs := locs) (cells := cells) (slots := slots) (Ts := GW) (nL := cd.maxLocals) (As := vs) (rest := st) (g := F0 m pc ls (vs.reverse ++ Value.ref (E.ad b) :: st)) ⟨o.1, o.2.1, rfl, o.2.2.1, hts⟩ hM ⟨⟨hrm.1, hrm.2.1, by rw [hRr]; exact hrm.2.2.1, by rw [hRr]; exact hrm.2.2.2, pay_in hts (goodIn_WS m1), List.mem_cons_self, hts _ m1, hts _ m2, ⟨m3, m4⟩, hlen, hts _ lk⟩, hts _ vl.1, hts _ vl.2⟩ hpre rfl hn hl.1 rfl (lv_room (c1s_sum hst)) d ⟨by rw [hRr]; show cells + 1 ≤ rm.cells; omega, by rw [hRr]; show slots + 6 ≤ rm.slots; omega⟩
  refine vx_calli run hS (fun q _ h => AA_AL hS.1 q h) (AA_AL hS.1) (fun q _ h => AA_AL hS.1 q h) ?_ ?_
  · intro En ce q9 u t H1 locs1 ht hvm hu hB hz hk1 hS1 hce hcv hcl
    obtain ⟨hn0, rfl, hR1, hF1, hP1⟩ := hB
    rw [ht] at hP1
    exact kx hn0 H1 locs1 ls q9 ce st ⟨hR1, hF1, lsW_join gA (Nat.lt_of_lt_of_le goa hS.1) hP hP1 hk1, hS1⟩ hl hc hce hcv hcl
  · intro r u t H1 locs1 ht hvm hv hB hz hk1 hS1
    obtain ⟨h0, hr⟩ := hv
    obtain ⟨hR1, hF1, hP1, -, -⟩ := hB
    rw [ht] at hP1
    have hr32 : R32 out.2.2 := by rw [← hr]; exact R_toInt r
    have hr2 : r = ii out.2.2 := by rw [← hr]; exact (toInt_ii r).symm
    rw [hr2]
    exact kk h0 hr32 H1 locs1 ls ⟨hR1, hF1, lsW_join gA (Nat.lt_of_lt_of_le goa hS.1) hP hP1 hk1, hS1⟩ hl hc
theorem J_xV {out : World × Nat × Int} {stk : List Value} (o : Ok K cc own rm) (g : GdO T E O K H0 hh) (kc : KC K 0 0) (d : decode cc pc = .ok (.invokevirtual idx, 3)) (lk : Cond.methodLink own idx y ∈ GW) (ml : ML y bytes maxL ret np) (vl : VL y) (hrm : rm'.cells = 1 ∧ rm'.slots = 6 ∧ rm'.frames + 1 ≤ rm.frames ∧ 8 + (maxL + 11) + rm'.locals ≤ rm.locals) (hroom : 1 ≤ rm.cells ∧ 6 ≤ rm.slots)
    (hM : ConXV T E (kL K) y (WS y bytes maxL ret) rm' (rf E.ad b :: vs) w out) (hb : T.kd b = κ) (hcn : (T.cl[κ - 1]?).map (fun q => q.1) = some y.cls) (hκ : 0 < κ ∧ κ < 40) (hn : vs.length = np) (hk : stk = vs.reverse ++ rf E.ad b :: st) (hst : c1s st)
    (kk : out.2.1 = 0 → Jj (kAdd K 1 6) (WdO T E O H0) (out.1, v) (pc + 3) L st) (kx : out.2.1 ≠ 0 → Jx (kAdd K 1 6) (WdO T E O H0) (out.1, v) pc L out.2.1) : Jj K (WdO T E O H0) (w, v) pc L stk := by
  subst hk
  obtain ⟨p, l, e, R, s, m, args, below, meth, cd, cells, slots, Q⟩ := K
  intro H locs ls hW hl hc
  obtain ⟨hR, hF, hP, hS⟩ := hW
  obtain ⟨⟨gK, gN, gX, gY⟩, ⟨gI, gT, gA⟩, gH, gh, gTb, goa⟩ := g
  have gh : s.heap = H0 := gh
  subst gh
  obtain ⟨c0, c1⟩ := gT b (by omega)
  have hPw : va_P E.D T.cl (wsl T E w) H := fun k q hq => hP k q (by
    unfold lsW
    rw [List.getElem?_append_left (List.getElem?_eq_some_iff.mp hq).1]
    exact hq)
  have gK1 : va_K E.D T.cl (tysE T E) s := va_K.sub gK [0, 1, 2, 3] rfl
  have hM := hM H.size
  rw [rf_p c0] at hM ⊢
  have he := wsl_get (E := E) (w := w) c0 c1
  rw [cel_obj hb hκ.2] at he
  obtain ⟨q, hq, hq1⟩ := Option.map_eq_some_iff.mp hcn
  have hrv := va_recv gK1 hPw hq he
  rw [hq1] at hrv
  obtain ⟨m1, m2, m3, m4, m5⟩ := ml
  have hts := o.2.2.2.1
  have hRr : R = rm := o.2.2.2.2.2
  have hlen : ∀ sig, parseMethodDescriptor y.desc = some sig → np = sig.parameters.length := fun sig h => by
    rw [h] at m5
    exact (Option.some.inj m5).symm
  have hxh : XH (AA T E H.size) s H := (gH.kept hS.2.1).narrow (AA_AL hS.1)
  have hpre : PreV s H y.cls (E.ad b) (va_Pc (Value.ref (E.ad b) :: vs) (PreX T E w H.size)) vs := ⟨PreX_blind, hrv, fun U hU hWm => ⟨rfl, ⟨by rw [hU], hR, hF, by rw [hU]; exact hPw, va_K.moved hWm.alike gK1, gN.warm hWm⟩, gX.warm hWm, by rw [hU]; exact hxh.moved hWm.alike⟩⟩
  have e0 : cells = 0 := kc.1
  have e1 : slots = 0 := kc.2
  have run := vx_runV (p := p) (l := l) (e := e) (R := R) (s := s) (m := m) (args := args) (below := below) (meth := meth) (c := cd) (H := H) (locs := locs) (cells := cells) (slots := slots) (Ts := GW) (nL := cd.maxLocals) (As := vs) (rest := st) (g := F0 m pc ls (vs.reverse ++ Value.ref (E.ad b) :: st)) ⟨o.1, o.2.1, rfl, o.2.2.1, hts⟩ hM ⟨⟨hrm.1, hrm.2.1, by rw [hRr]; exact hrm.2.2.1, by rw [hRr]; exact hrm.2.2.2, pay_in hts (goodIn_WS m1), List.mem_cons_self, hts _ m1, hts _ m2, ⟨m3, m4⟩, hlen, hts _ lk⟩, hts _ vl.1, hts _ vl.2⟩ hpre rfl hn hl.1 rfl (lv_room (c1s_sum hst)) d ⟨by rw [hRr]; show cells + 1 ≤ rm.cells; omega, by rw [hRr]; show slots + 6 ≤ rm.slots; omega⟩
  refine vx_callv run hS (fun q _ h => AA_AL hS.1 q h) (AA_AL hS.1) (fun q _ h => AA_AL hS.1 q h) ?_ ?_
  · intro En ce q9 u t H1 locs1 ht hvm hu hB hz hk1 hS1 hce hcv hcl
    obtain ⟨hn0, rfl, hR1, hF1, hP1⟩ := hB
    rw [ht] at hP1
    exact kx hn0 H1 locs1 ls q9 ce st ⟨hR1, hF1, lsW_join gA (Nat.lt_of_lt_of_le goa hS.1) hP hP1 hk1, hS1⟩ hl hc hce hcv hcl
  · intro u t H1 locs1 ht hvm hv hB hz hk1 hS1
    obtain ⟨hR1, hF1, hP1, -, -⟩ := hB
    rw [ht] at hP1
    exact kk hv H1 locs1 ls ⟨hR1, hF1, lsW_join gA (Nat.lt_of_lt_of_le goa hS.1) hP hP1 hk1, hS1⟩ hl hc
theorem OkO.add {a' b' : Nat} (h : Ok K cc own rm) : Ok (kAdd K a' b') cc own rm := by
  obtain ⟨p, l, e, R, s, m, args, below, meth, c, cells, slots, Q⟩ := K
  exact h
theorem GdO.add {a' b' : Nat} (h : GdO T E O K H0 hh) : GdO T E O (kAdd K a' b') H0 hh := by
  obtain ⟨p, l, e, R, s, m, args, below, meth, c, cells, slots, Q⟩ := K
  exact h
def RetO (T : TT) (E : EE) (O : OO) (K : KT) (H0 : Heap) (cc : ByteArray) (out : World × Nat × Int) (ov : Bool) (hm : Nat → Int) : Prop := ∀ (pc : Nat) (L : List (Option Value)) (u : Nat → Int64) (r : Int), R32 r → r = hm out.2.1 → (ov = true → out.2.1 = 0 → (u 0).toInt = out.2.2) → decode cc pc = .ok (.ireturn, 1) → Jj (kAdd K 1 6) (WdO T E O H0) (out.1, u) pc L [.int (ii r)]
def WSW (y : MethodName) (b : ByteArray) (n : Nat) (r : Option FieldType) (hh : List (Nat × Nat × Nat × Nat)) : List Cond := .codeWith y b n r hh :: GW
theorem con_O {out : World × Nat × Int} {ov : Bool} {hm : Nat → Int} (hy : plainName y.cls = true) (hret : ret = some .int) (hl : vs.length ≤ maxL) (hcv : ∀ v ∈ vs, v.category = 1) (hI : Inj T E) (hT : Tn T) (hA : Ap T E O.2) {l : Launch}
    (h : ∀ (K : KT) (H0 : Heap), Ok K bytes y.cls rm → GdO T E O K H0 hh → KC K 0 0 → kL K = l → RetO T E O K H0 bytes out ov hm → Jj K (WdO T E O H0) (w, v) 0 (entL vs maxL) []) : ConO T E O l y (WSW y bytes maxL ret hh) rm vs (w, v) out ov hm := by
  intro sz
  refine vx_ofWH (cc := bytes) (maxL := maxL) (ret := ret) (hh := hh) hy rfl ?_
  intro p e s m args below meth c s₁ B hml hv
  obtain ⟨rfl, hsz, ⟨hR, hF, hP⟩, ⟨hK, hN, hX, hY⟩, hH⟩ := hv
  have hts := atoms_spec (ws := WSW y bytes maxL ret hh) B.pre
  have hown : s.vm.findClass y.cls = some m.cls := findClass_of_methodNamed B.named
  have htab : c.exceptionTable.toList = tableOf hh := vx_table (x := y) B (hts _ List.mem_cons_self)
  subst hsz
  rw [lg_entry_eq]
  obtain ⟨e1, e2⟩ := ent_has hl hml hcv
  refine h (p, l, e, (headSpec (WSW y bytes maxL ret hh) rm).room, s, m, vs.toArray, below, meth, c, 0, 0, _) s.heap ⟨B.exec, B.bytes, hown, fun w hw => hts w (List.mem_cons_of_mem _ hw), B.notSynchronized, rfl⟩ ⟨⟨hK, hN, hX, hY⟩, ⟨hI, hT, hA⟩, hH, rfl, htab, vx_lt hP lsW_last⟩ ⟨rfl, rfl⟩ rfl ?_ s.heap [] _ ⟨hR, hF, hP, va_S.rf⟩ e1 e2
  intro pc L u r hr32 hr hu d H locs ls hW hl hc
  have hr9 := B.returns
  rw [hret] at hr9
  have hlocks := B.notSynchronized
  exact vx_ret (W.iret (v := ii r) B.exec B.bytes hr9 (fun t ht hWm => ⟨⟨ii r, u, rfl, ⟨by rw [ii_toInt hr32]; exact hr, hu⟩, hW.1, hW.2.1, by rw [ht]; exact hW.2.2.1⟩, hW.2.2.2.F ht⟩) hW.2.2.2.2.2 d)
end JO
