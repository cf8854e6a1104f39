/-! constructors: fields that are final, calls of constructors, their contracts -/
theorem Rn_up {T : TT} {n c k : Nat} {v : Int} {w : World} (h : Rn T n w) (hv : v.toNat ≤ n) : Rn T n (up w c k v) := by
  intro c' j
  unfold up
  by_cases q : c' = c ∧ j = k
  · rw [if_pos q]; exact Or.inl hv
  · rw [if_neg q]; exact h c' j
theorem Rn_le {T : TT} {n m : Nat} {w : World} (h : Rn T n w) (hn : n ≤ m) : Rn T m w := fun c j => (h c j).imp (fun z => Nat.le_trans z hn) id
def FPF (own : String) (idx : Nat) (T : TT) (κ j : Nat) (ty : FieldType) : Prop := ∃ (C : String) (F : u_T) (N : Nat), T.cl[κ - 1]? = some (C, F, N) ∧ (0 < κ ∧ κ < 40 ∧ j < N) ∧ (∀ w ∈ u_ws C F N, w ∈ GW) ∧
  Cond.fieldLink own idx (F j).1 (F j).2.1 (F j).2.2.1 ∈ GW ∧ (∃ ty0 : Nat → FieldType, (∀ k, k < N → parseFieldDescriptor (F k).2.2.1 = some (ty0 k)) ∧ ty0 j = ty) ∧ (∀ a, a < N → ∀ b, b < N → a ≠ b → (F a).2.1 ≠ (F b).2.1) ∧ (F j).2.2.2 = true ∧ (F j).1 = own
def ConC (T : TT) (S : EE) (n n' : Nat) (l : Launch) (y : MethodName) (ws : List Cond) (rm : Room) (vs : List Value) (ad : Nat → Nat) (w w' : World) : Prop :=
  ∀ sz : Nat, Met l y ws rm (va_Pc vs (PreA (tr T n) (sad S ad) w sz)) (va_Qv (fun (ad' : Nat → Nat) => Ag n n' sz ad ad' ∧ Inj (tr T n') (sad S ad')) (fun ad' t => StA (tr T n') (sad S ad') w' t) (AA (tr T n) (sad S ad) sz)) rm.cells rm.slots (AA (tr T n) (sad S ad) sz)
theorem KSim.trans {K K1 K2 : KT} (h : KSim K K1) (h' : KSim K1 K2) : KSim K K2 := by
  obtain ⟨x, y, rfl⟩ := h'
  exact h.add
theorem c1s_a {a : Nat} {st : List Value} (h : c1s st) (hl : st.length + 1 ≤ 8) : c1s (.ref a :: st) := ⟨fun v hv => (List.mem_cons.mp hv).elim (fun e => by rw [e]; rfl) (h.1 v), hl⟩
theorem rf_ag {S : EE} {n n' sz c : Nat} {ad ad' : Nat → Nat} (h : Ag n n' sz ad ad') (hc : c ≤ n) : rf (sad S ad).ad c = rf (sad S ad').ad c := by
  unfold rf
  by_cases q : c = 0
  · rw [if_pos q, if_pos q]
  · rw [if_neg q, if_neg q]
    show Value.ref (ad c) = Value.ref (ad' c)
    rw [h.1 c hc]
section JC2
variable {T : TT} {S : EE} {K : KT} {w w' : World} {H0 : Heap} {pc idx n n' : Nat} {L : List (Option Value)} {st vs : List Value} {cc bytes : ByteArray} {own : String} {rm rm' : Room} {y : MethodName} {maxL np κ N a b c j : Nat} {ad : Nat → Nat}
theorem J_putF {E : EE} {ty : FieldType} {v : Nat} (o : OkC K cc own rm) (g : Gd T E K) (d : decode cc pc = .ok (.putfield idx, 3)) (fl : FPF own idx T κ j ty) (hk : T.kd c = κ) (hfx : T.fx κ j = none) (hr : T.isref κ j = true) (hv : v < 1000) (hty : (∃ n, ty = .object n) ∨ ∃ t, ty = .array t) (k : Jj K (WdT T E H0) (up w c j (v : Int)) (pc + 3) L st) : Jj K (WdT T E H0) w pc L (rf E.ad v :: rf E.ad c :: st) := by
  obtain ⟨p, l, e, R, s, m, args, below, meth, cd, cells, slots, Q⟩ := K
  intro H locs ls hW hl hc
  obtain ⟨hR, hF, hP, hS⟩ := hW
  obtain ⟨gK, gI, gT, gN⟩ := g
  obtain ⟨C, F, N, hcl, ⟨k0, k1, k2⟩, hin, hlk, ⟨ty0, ht0, htj⟩, hnm, hfin, hdecl⟩ := fl
  obtain ⟨c0, c1⟩ := gT c (by omega)
  rw [rf_p c0]
  have he := wsl_get (E := E) (w := w) c0 c1
  rw [cel_obj hk k1, nfT_eq hcl] at he
  have hV : fval T E κ (up w c j (v : Int)) c j = rf E.ad v := by
    unfold fval
    rw [if_pos hr, up_eq]
    rfl
  have hset : (wsl T E w).set (c - 1) (E.ad c, .inr (κ - 1, ((List.range N).map (fval T E κ w c)).set j (rf E.ad v))) = wsl T E (up w c j (v : Int)) := by
    rw [← wsl_up c0 c1, cel_obj hk k1, nfT_eq hcl, ← hV, fvals_up k2]
  have hlen : j < ((List.range N).map (fval T E κ w c)).length := by rw [List.length_map, List.length_range]; exact k2
  have kk : ∀ (H1 : Heap) (locs1 : List Loc), va_P E.D T.cl ((wsl T E w).set (c - 1) (E.ad c, .inr (κ - 1, ((List.range N).map (fval T E κ w c)).set j (rf E.ad v)))) H1 → va_D (AA T E H0.size) ((wsl T E w).set (c - 1) (E.ad c, .inr (κ - 1, ((List.range N).map (fval T E κ w c)).set j (rf E.ad v)))) → va_S (AA T E H0.size) H0 H1 locs1 → W p l e R s m args below meth cd H1 locs1 cells slots Q (F0 m (pc + 3) ls st) := by
    intro H1 locs1 hP1 _ hS1
    rw [hset] at hP1
    exact k H1 locs1 ls ⟨RW_up hR (by unfold R32; omega), Fx_up hF (by rw [hk]; exact hfx), hP1, hS1⟩ hl hc
  have hn : narrow ty (rf E.ad v) = rf E.ad v := by rcases hty with ⟨n, rfl⟩ | ⟨t, rfl⟩ <;> (unfold rf; split <;> rfl)
  have hfit : fits ty (rf E.ad v) = true := by rcases hty with ⟨n, rfl⟩ | ⟨t, rfl⟩ <;> (unfold rf; split <;> rfl)
  exact va_putF (D := E.D) (ci := κ - 1) (C := C) (T := F) (N := N) (ty := ty) o.1.1 o.1.2.1 o.1.2.2.2.1 hin ty0 ht0 hnm o.1.2.2.1 gK hP (wsl_D gI) hS (c - 1) he hcl j k2 (o.1.2.2.2.1 _ hlk) (fun _ h9 => h9) hfin o.2 hdecl (by rw [ht0 j k2, htj]) hn hfit hlen d kk
def rmLeC (rm rm' : Room) (maxL : Nat) : Prop := rm.frames + 1 ≤ rm'.frames ∧ 8 + (maxL + 11) + rm.locals ≤ rm'.locals
theorem J_init {b0 : Nat} {stk vs' : List Value} {b1 : Nat} {a' b' : Nat} (o : OkC K cc own rm) (hT : Tn T) (g : Gd (tr T n) (sad S ad) K) (kc : KC K a b) (d : decode cc pc = .ok (.invokespecial idx, 3)) (lk : LK own idx y) (ml : ML y bytes maxL none np) (hi : Cond.instanceMethod y ∈ GW) (hnm : y.name = "<init>") (hrm : rmLeC rm' rm maxL)
    (hM : ConC T S n n' (kL K) y (WS y bytes maxL none) rm' (.ref b0 :: vs) ad w w') (he : (.ref b1 :: vs' : List Value) = .ref b0 :: vs) (hn : vs.length = np) (hnn : n ≤ n') (hk : stk = vs'.reverse ++ .ref b1 :: st) (hst : c1s st) (ha : a + rm'.cells = a') (hb : b + rm'.slots = b') (hroom : a' ≤ rm.cells ∧ b' ≤ rm.slots)
    (k : ∀ (K' : KT) (ad' : Nat → Nat), KSim K K' → OkC K' cc own rm → KC K' a' b' → Ag n n' H0.size ad ad' → Gd (tr T n') (sad S ad') K' → Jj K' (WdT (tr T n') (sad S ad') H0) w' (pc + 3) L st) : Jj K (WdT (tr T n) (sad S ad) H0) w pc L stk := by
  have he2 : vs = vs' := (List.cons.inj he).2.symm
  have he1 : b0 = b1 := by have := (List.cons.inj he).1; cases this; rfl
  subst he2
  subst he1
  subst hk
  have o' : OkC (kAdd K rm'.cells rm'.slots) cc own rm := o.add
  obtain ⟨p, l, e, R, s, m, args, below, meth, cd, cells, slots, Q⟩ := K
  intro H locs ls hW hl hc
  have hR : R = rm := o.1.2.2.2.2.2
  obtain ⟨kc1, kc2⟩ := kc
  have kc1' : cells = a := kc1
  have kc2' : slots = b := kc2
  obtain ⟨gK, gI, gT, gN⟩ := g
  obtain ⟨m1, m2, m3, m4, m5⟩ := ml
  have hts := o.1.2.2.2.1
  have k1 : rm'.frames + 1 ≤ R.frames := by rw [hR]; exact hrm.1
  have k2 : 8 + (maxL + 11) + rm'.locals ≤ R.locals := by rw [hR]; exact hrm.2
  have hlen : ∀ sig, parseMethodDescriptor y.desc = some sig → np = sig.parameters.length := fun sig h => by
    rw [h] at m5
    exact (Option.some.inj m5).symm
  have hpre : PreS s H (va_Pc (.ref b0 :: vs) (PreA (tr T n) (sad S ad) w H.size)) (.ref b0 :: vs) := ⟨PreA_blind, fun U hU hWm => ⟨rfl, by rw [hU], hW.1, hW.2.1, by rw [hU]; exact hW.2.2.1, va_K.moved hWm.alike gK, gN.warm hWm⟩⟩
  have hroomc : cells + rm'.cells ≤ R.cells ∧ slots + rm'.slots ≤ R.slots := by rw [hR, kc1', kc2']; exact ⟨Nat.le_trans (by omega) hroom.1, Nat.le_trans (by omega) hroom.2⟩
  have run : va_Run p l e R s m args below meth cd H locs cells slots rm'.cells rm'.slots (F0 m pc ls (vs.reverse ++ .ref b0 :: st)) st (va_Qv (fun (ad' : Nat → Nat) => Ag n n' H.size ad ad' ∧ Inj (tr T n') (sad S ad')) (fun ad' t => StA (tr T n') (sad S ad') w' t) (AA (tr T n) (sad S ad) H.size) (Value.ref b0 :: vs).toArray) (AA (tr T n) (sad S ad) H.size) := by
    rcases lk with h | ⟨host, h⟩
    · exact va_runI (Ts := GW) (nL := cd.maxLocals) (As := vs) (rest := st) ⟨o.1.1, o.1.2.1, rfl, o.1.2.2.1, hts⟩ (hM H.size) ⟨⟨rfl, rfl, k1, k2, pay_in hts (goodIn_WS m1), List.mem_cons_self, hts _ m1, hts _ m2, ⟨m3, m4⟩, hlen, hts _ h⟩, hnm, hts _ hi⟩ hpre rfl hn hl.1 rfl (lv_room (c1s_sum hst)) d hroomc
    · exact va_runIN (Ts := GW) (nL := cd.maxLocals) (As := vs) (rest := st) ⟨o.1.1, o.1.2.1, rfl, o.1.2.2.1, hts⟩ (hM H.size) ⟨⟨⟨rfl, rfl, k1, k2, pay_in hts (goodIn_WS m1), List.mem_cons_self⟩, hts _ m1, hts _ m2, ⟨m3, m4⟩, hlen, va_Nw.use rfl (gN.2.1 _ _ _ _ h)⟩, hnm, hts _ hi⟩ hpre rfl hn hl.1 rfl (lv_room (c1s_sum hst)) d hroomc
  have hsub : ∀ q, AA (tr T n) (sad S ad) H.size q → AA (tr T n) (sad S ad) H0.size q := AA_sub hW.2.2.2.1
  refine va_callv run hW.2.2.2 (fun q _ h => hsub q h) hsub (fun ad' t H1 locs1 ht hvm hv hB hz1 hk1 hS1 => ?_)
  have hag : Ag n n' H0.size ad ad' := ⟨hv.1.1, fun c h1 h2 => Nat.le_trans hW.2.2.2.1 (hv.1.2 c h1 h2)⟩
  exact k (kAdd (p, l, e, R, s, m, args, below, meth, cd, cells, slots, Q) rm'.cells rm'.slots) ad' ⟨_, _, rfl⟩ o' ⟨by show cells + rm'.cells = a'; omega, by show slots + rm'.slots = b'; omega⟩ hag ⟨gK, hv.2, tr_Tn hT _, gN⟩ H1 locs1 ls ⟨hB.1, hB.2.1, by rw [← ht]; exact hB.2.2.1, va_S_iff (AA_tr (E := S) hag hnn) hS1⟩ hl hc
def RetC (T : TT) (S : EE) (n n' : Nat) (ad : Nat → Nat) (K : KT) (H0 : Heap) (cc : ByteArray) (rm : Room) (w' : World) : Prop := ∀ (K' : KT) (pc : Nat) (L : List (Option Value)) (ad' : Nat → Nat) (a b : Nat), KSim K K' → KC K' a b → a ≤ rm.cells ∧ b ≤ rm.slots → Ag n n' H0.size ad ad' → Gd (tr T n') (sad S ad') K' → decode cc pc = .ok (.return_, 1) → Jj K' (WdT (tr T n') (sad S ad') H0) w' pc L []
theorem con_C (hy : plainName y.cls = true) (hnm : y.name = "<init>") (hl : vs.length ≤ maxL) (hcv : ∀ v ∈ vs, v.category = 1) (hI : Inj (tr T n) (sad S ad)) (hT : Tn T) (hnn : n ≤ n') {l : Launch}
    (h : ∀ (K : KT) (H0 : Heap), OkC K bytes y.cls rm → Gd (tr T n) (sad S ad) K → KC K 0 0 → kL K = l → RetC T S n n' ad K H0 bytes rm w' → Jj K (WdT (tr T n) (sad S ad) H0) w 0 (entL vs maxL) []) : ConC T S n n' l y (WS y bytes maxL none) rm vs ad w w' := by
  intro sz
  refine Met.ofW (cc := bytes) (maxL := maxL) (ret := none) hy rfl ?_
  intro p e s m args below meth c s₁ B hml hv
  obtain ⟨rfl, hsz, hR, hF, hP, hK, hN⟩ := hv
  have hts := atoms_spec (ws := WS y bytes maxL none) B.pre
  have hown : s.vm.findClass y.cls = some m.cls := findClass_of_methodNamed B.named
  subst hsz
  rw [lg_entry_eq]
  obtain ⟨e1, e2⟩ := ent_has hl hml hcv
  have hmn : meth.name = "<init>" := (name_of_methodNamed B.named B.method).1.trans hnm
  refine h (p, l, e, (headSpec (WS y bytes maxL none) rm).room, s, m, vs.toArray, below, meth, c, 0, 0, _) s.heap ⟨⟨B.exec, B.bytes, hown, fun w hw => hts w (List.mem_cons_of_mem _ hw), B.notSynchronized, rfl⟩, hmn⟩ ⟨hK, hI, tr_Tn hT n, hN⟩ ⟨rfl, rfl⟩ rfl ?_ s.heap [] _ ⟨hR, hF, hP, va_S.rf⟩ e1 e2
  intro K' pc L ad' a b hsim hkc hle hag hg d
  obtain ⟨x, z, rfl⟩ := hsim
  intro H locs ls hW hl hc
  have hr := B.returns
  have hlocks := B.notSynchronized
  have h1 : 0 + x ≤ rm.cells := Nat.le_trans (Nat.le_of_eq hkc.1) hle.1
  have h2 : 0 + z ≤ rm.slots := Nat.le_trans (Nat.le_of_eq hkc.2) hle.2
  have hS2 := va_S_iff (fun q => (AA_tr (T := T) (E := S) hag hnn q).symm) hW.2.2.2
  refine W.widen (k := rm.cells) (n := rm.slots) h1 h2 ?_
  exact W.vret B.exec B.bytes hr (fun t ht hWm => ⟨⟨ad', rfl, ⟨hag, hg.2.1⟩, hW.1, hW.2.1, by rw [ht]; exact hW.2.2.1, va_K.moved hWm.alike hK, hN.warm hWm⟩, hS2.F ht⟩) hS2.2.2 d
end JC2
