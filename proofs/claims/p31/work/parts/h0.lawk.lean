/-! THE LAW'S OWN METHODS: two mills, the row of six ints, the script; reading and writing them, calling (some rows began as whole's) -/
/-- the three exceptions are none another -/
def XNs (U : State) : Prop := ∀ a b : Nat, (a = 1 ∨ a = 2 ∨ a = 3) → (b = 1 ∨ b = 2 ∨ b = 3) → a ≠ b → va_Nc (xName a) (xName b) U
theorem XNs.warm {s U : State} (hW : s.WarmedH U.vm) (h : XNs s) : XNs U := fun a b ha hb hn => va_Nc.moved hW.alike (h a b ha hb hn)
theorem XNs.same {s U : State} (hv : s.vm = U.vm) (h : XNs s) : XNs U := XNs.warm (hv ▸ State.WarmedH.refl s) h
def kC (K : KT) : Code := K.2.2.2.2.2.2.2.2.2.1
/-- what is thrown here is to be caught -/
def Jx {ω : Type} (K : KT) (Wd : ω → Heap → List Loc → Prop) (w : ω) (pc : Nat) (L : List (Option Value)) (n : Nat) : Prop :=
  match K with
  | (p, l, e, R, s, m, args, below, meth, c, cells, slots, Q) => ∀ (H : Heap) (locs : List Loc) (ls : Array Slot) (q : Addr) (ce : Cell) (rest : List Value), Wd w H locs → hasL c ls L → (∀ q ∈ ascL L, q.2.category = 1) → H[q]? = some ce → ce.vm = .none → s.vm.findClass (xName n) = some ce.cls → vx_W p l e R s m args below meth c H locs cells slots Q (F0 m pc ls rest) q
theorem J_aldO {K : KT} {pc : Nat} {L : List (Option Value)} {st : List Value} {cc : ByteArray} {own : String} {rm : Room} {ω : Type} {Wd : ω → Heap → List Loc → Prop} {w : ω} {i : Nat} {x : Nat} (o : Ok K cc own rm) (d : decode cc pc = .ok (.aload i, 2)) (hv : L[i]? = some (some (.ref x))) (k : Jj K Wd w (pc + 2) L (.ref x :: st)) : Jj K Wd w pc L st := by
  obtain ⟨p, l, e, R, s, m, args, below, meth, c, cells, slots, Q⟩ := K
  intro H locs ls hW hl hc
  exact lv_aload o.1 o.2.1 d (hl.2.2.2 _ _ hv) (k H locs ls hW hl hc)
theorem J_aldO_n {K : KT} {pc : Nat} {L : List (Option Value)} {st : List Value} {cc : ByteArray} {own : String} {rm : Room} {ω : Type} {Wd : ω → Heap → List Loc → Prop} {w : ω} {i : Fin 4} {x : Nat} (o : Ok K cc own rm) (d : decode cc pc = .ok (.aload_n i, 1)) (hv : L[(i : Nat)]? = some (some (.ref x))) (k : Jj K Wd w (pc + 1) L (.ref x :: st)) : Jj K Wd w pc L st := by
  obtain ⟨p, l, e, R, s, m, args, below, meth, c, cells, slots, Q⟩ := K
  intro H locs ls hW hl hc
  exact lv_aload_n o.1 o.2.1 d rfl (hl.2.2.2 _ _ hv) (k H locs ls hW hl hc)
theorem J_astO {K : KT} {pc : Nat} {L : List (Option Value)} {st : List Value} {cc : ByteArray} {own : String} {rm : Room} {ω : Type} {Wd : ω → Heap → List Loc → Prop} {w : ω} {i : Nat} {x : Nat} (o : Ok K cc own rm) (d : decode cc pc = .ok (.astore i, 2)) (hi : i < L.length) (k : Jj K Wd w (pc + 2) (L.set i (some (.ref x))) st) : Jj K Wd w pc L (.ref x :: st) := by
  obtain ⟨p, l, e, R, s, m, args, below, meth, c, cells, slots, Q⟩ := K
  intro H locs ls hW hl hc
  exact lv_astore o.1 o.2.1 d hl.has (by rw [← hl.2.1]; exact hi) rfl (fun ls' h' => k H locs ls' hW (hl.put hc h') (asc_set rfl hc))
theorem J_astO_n {K : KT} {pc : Nat} {L : List (Option Value)} {st : List Value} {cc : ByteArray} {own : String} {rm : Room} {ω : Type} {Wd : ω → Heap → List Loc → Prop} {w : ω} {i : Fin 4} {x : Nat} (o : Ok K cc own rm) (d : decode cc pc = .ok (.astore_n i, 1)) (hi : (i : Nat) < L.length) (k : Jj K Wd w (pc + 1) (L.set (i : Nat) (some (.ref x))) st) : Jj K Wd w pc L (.ref x :: st) := by
  obtain ⟨p, l, e, R, s, m, args, below, meth, c, cells, slots, Q⟩ := K
  intro H locs ls hW hl hc
  exact lv_astore_n o.1 o.2.1 d rfl hl.has (by rw [← hl.2.1]; exact hi) rfl (fun ls' h' => k H locs ls' hW (hl.put hc h') (asc_set rfl hc))
def WSW (y : MethodName) (b : ByteArray) (n : Nat) (r : Option FieldType) (hh : List (Nat × Nat × Nat × Nat)) : List Cond := .codeWith y b n r hh :: GW
/-- the rows ahead of one in the table name other classes -/
def aheadOk (n : Nat) (pre : List (Nat × Nat × Nat × Nat)) : Prop := ∀ z ∈ pre, z.2.2.2 ≠ 0 ∧ ∃ a : Nat, (a = 1 ∨ a = 2 ∨ a = 3) ∧ n ≠ a ∧ Cond.classLink "DatalogmillLaw" z.2.2.2 (xName a) ∈ GW
theorem wsl_len {T : TT} {E : EE} {w : World} : (wsl T E w).length = T.nn := by unfold wsl; rw [List.length_map, List.length_range]
theorem OkO.add {K : KT} {pc : Nat} {L : List (Option Value)} {st : List Value} {cc : ByteArray} {own : String} {rm : Room} {a' b' : Nat} (h : Ok K cc own rm) : Ok (kAdd K a' b') cc own rm := by
  obtain ⟨p, l, e, R, s, m, args, below, meth, c, cells, slots, Q⟩ := K
  exact h
theorem keepP {T : TT} {E : EE} {D : va_G} {w : World} {H H1 : Heap} (h : va_P D vwCl (wsl T E w) H) (hk : ∀ c : Nat, c ≠ 0 → c ≤ T.nn → E.ad c < H.size → H1[E.ad c]? = H[E.ad c]?) : va_P D vwCl (wsl T E w) H1 :=
  va_P.kept h (fun k q hq => by
    have hlt := vx_lt h hq
    obtain ⟨h1, rfl⟩ := wsl_spec hq
    exact hk (k + 1) (by omega) (by omega) hlt)
theorem J_tabI {K : KT} {pc : Nat} {L : List (Option Value)} {st : List Value} {cc : ByteArray} {own : String} {rm : Room} {dflt lo hi : Int} {offs : Array Int} {len : Nat} {x off : Int} (tgt : Nat) {ω : Type} {Wd : ω → Heap → List Loc → Prop} {w : ω} (o : Ok K cc own rm) (d : decode cc pc = .ok (.tableswitch dflt lo hi offs, len)) (hx : R32 x) (h1 : lo ≤ x ∧ x ≤ hi) (ho : offs[(x - lo).toNat]? = some off) (ht : (pc : Int) + off = (tgt : Int)) (k : Jj K Wd w tgt L st) : Jj K Wd w pc L (.int (ii x) :: st) := by
  obtain ⟨p, l, e, R, s, m, args, below, meth, c, cells, slots, Q⟩ := K
  intro H locs ls hW hl hc
  exact lv_tableIn o.1 o.2.1 d (by rw [ii_toInt hx]; omega) (by rw [ii_toInt hx]; omega) (by rw [ii_toInt hx]; exact ho) ht (k H locs ls hW hl hc)
theorem J_tabO {K : KT} {pc : Nat} {L : List (Option Value)} {st : List Value} {cc : ByteArray} {own : String} {rm : Room} {dflt lo hi : Int} {offs : Array Int} {len : Nat} {x : Int} (tgt : Nat) {ω : Type} {Wd : ω → Heap → List Loc → Prop} {w : ω} (o : Ok K cc own rm) (d : decode cc pc = .ok (.tableswitch dflt lo hi offs, len)) (hx : R32 x) (h1 : x < lo ∨ hi < x) (ht : (pc : Int) + dflt = (tgt : Int)) (k : Jj K Wd w tgt L st) : Jj K Wd w pc L (.int (ii x) :: st) := by
  obtain ⟨p, l, e, R, s, m, args, below, meth, c, cells, slots, Q⟩ := K
  intro H locs ls hW hl hc
  exact lv_tableOut o.1 o.2.1 d (by rw [ii_toInt hx]; exact h1) ht (k H locs ls hW hl hc)
abbrev ZQ : Type := World × World × (Nat → Int)
/-- what the law has: the two mills' cells, the row of six, the script -/
abbrev QX : Type := EE × (Nat → Nat) × (Nat → Nat) × Nat × Nat × Nat × (Nat → Int32)
abbrev QX.S (X : QX) : EE := X.1
abbrev QX.A (X : QX) : EE := sad X.1 X.2.1
abbrev QX.B (X : QX) : EE := sad X.1 X.2.2.1
abbrev QX.oa (X : QX) : Nat := X.2.2.2.1
abbrev QX.b (X : QX) : Nat := X.2.2.2.2.1
abbrev QX.n (X : QX) : Nat := X.2.2.2.2.2.1
abbrev QX.xs (X : QX) : Nat → Int32 := X.2.2.2.2.2.2
abbrev QX.M (X : QX) (b : Bool) : EE := sad X.1 (if b = true then X.2.2.1 else X.2.1)
def scQ (X : QX) (n : Nat) : Int := (X.xs n).toInt
theorem R_scQ (X : QX) (n : Nat) : R32 (scQ X n) := R_toInt _
def zg (z : ZQ) (b : Bool) : World := if b = true then z.2.1 else z.1
def zs (z : ZQ) (b : Bool) (w : World) : ZQ := if b = true then (z.1, w, z.2.2) else (w, z.2.1, z.2.2)
def zn (z : ZQ) (k : Nat) (v : Int) : ZQ := (z.1, z.2.1, fun j => if j = k then v else z.2.2 j)
def nE (cI : ClassId) (f : Nat → Int) : va_E := .inl (cI, 6, .inl (fun j => ii (f j)))
def lsQ (X : QX) (z : ZQ) : va_W := (wsl TA X.A z.1 ++ wsl TA X.B z.2.1) ++ [(X.oa, nE X.S.cI z.2.2)]
def AQ (X : QX) (sz : Nat) : Nat → Prop := fun q => (∃ c : Nat, c ≠ 0 ∧ c ≤ TA.nn ∧ q = X.A.ad c) ∨ (∃ c : Nat, c ≠ 0 ∧ c ≤ TA.nn ∧ q = X.B.ad c) ∨ q = X.oa ∨ sz ≤ q
def OkZ (z : ZQ) : Prop := (RW z.1 ∧ Fx TA z.1) ∧ (RW z.2.1 ∧ Fx TA z.2.1) ∧ ∀ k : Nat, R32 (z.2.2 k)
def ApQ (X : QX) : Prop := Inj TA X.A ∧ Inj TA X.B ∧ (∀ c : Nat, c ≠ 0 → c ≤ TA.nn → X.A.ad c ≠ X.oa) ∧ (∀ c : Nat, c ≠ 0 → c ≤ TA.nn → X.B.ad c ≠ X.oa) ∧ ∀ c c' : Nat, c ≠ 0 → c ≤ TA.nn → c' ≠ 0 → c' ≤ TA.nn → X.A.ad c ≠ X.B.ad c'
def WdQ (X : QX) (H0 : Heap) : ZQ → Heap → List Loc → Prop := fun z H locs => OkZ z ∧ va_P X.S.D vwCl (lsQ X z) H ∧ va_S (AQ X H0.size) H0 H locs
def KsQ (X : QX) (U : State) : Prop := va_K X.S.D vwCl (tysE TA X.S) U ∧ NWs U ∧ XS U ∧ XNs U
def GdQ (X : QX) (K : KT) (H0 : Heap) : Prop := KsQ X (kS K) ∧ ApQ X ∧ XH (AQ X H0.size) (kS K) H0 ∧ (kS K).heap = H0 ∧ va_X X.b X.n X.xs (kS K) H0 ∧ X.b < H0.size ∧ ¬ AQ X H0.size X.b ∧ X.n ≤ 260
def PreQ (X : QX) (z : ZQ) (sz : Nat) (U : State) : Prop := U.heap.size = sz ∧ (OkZ z ∧ va_P X.S.D vwCl (lsQ X z) U.heap) ∧ KsQ X U ∧ XH (AQ X sz) U U.heap ∧ va_X X.b X.n X.xs U U.heap ∧ X.b < sz ∧ ¬ AQ X sz X.b ∧ X.n ≤ 260
theorem KsQ.warm {X : QX} {s U : State} (hW : s.WarmedH U.vm) (h : KsQ X s) : KsQ X U := ⟨va_K.moved hW.alike h.1, h.2.1.warm hW, h.2.2.1.warm hW, h.2.2.2.warm hW⟩
theorem PreQ_blind {X : QX} {z : ZQ} {sz : Nat} {vs : List Value} : FrameBlind (va_Pc vs (PreQ X z sz)) := fun a U g mk q => by
  obtain ⟨q0, q1, q2, ⟨qK, qN, qX, qY⟩, qH, qS, q3⟩ := q
  exact ⟨q0, q1, q2, ⟨va_K.moved (u := U) (U := U.calling g mk a) (Vm.Alike.refl U.vm) qK, qN.same rfl, XS.same (s := U) (U := U.calling g mk a) rfl qX, XNs.same (s := U) (U := U.calling g mk a) rfl qY⟩, XH.moved (u := U) (U := U.calling g mk a) (Vm.Alike.refl U.vm) qH, va_X.moved (u := U) (U := U.calling g mk a) (Vm.Alike.refl U.vm) qS, q3⟩
theorem GdQ.add {X : QX} {K : KT} {H0 : Heap} {a b : Nat} (h : GdQ X K H0) : GdQ X (kAdd K a b) H0 := h
theorem OkQ.add {K : KT} {cc : ByteArray} {own : String} {rm : Room} {a b : Nat} (h : Ok K cc own rm) : Ok (kAdd K a b) cc own rm := by
  obtain ⟨p, l, e, R, s, m, args, below, meth, c, cells, slots, Q⟩ := K
  exact h
theorem kAdd_kAdd {K : KT} {a b c d : Nat} : kAdd (kAdd K a b) c d = kAdd K (a + c) (b + d) := by
  unfold kAdd; simp only [Nat.add_assoc]
theorem AQ_sub {X : QX} {a b : Nat} (h : b ≤ a) : ∀ q, AQ X a q → AQ X b q := by
  rintro q (h1 | h1 | h1 | h1)
  · exact Or.inl h1
  · exact Or.inr (Or.inl h1)
  · exact Or.inr (Or.inr (Or.inl h1))
  · exact Or.inr (Or.inr (Or.inr (Nat.le_trans h h1)))
theorem AA_AQ {X : QX} {a b : Nat} {m : Bool} (h : b ≤ a) : ∀ q, AA TA (X.M m) a q → AQ X b q := by
  rintro q (⟨c, c0, c1, rfl⟩ | h1)
  · cases m
    · exact Or.inl ⟨c, c0, c1, rfl⟩
    · exact Or.inr (Or.inl ⟨c, c0, c1, rfl⟩)
  · exact Or.inr (Or.inr (Or.inr (Nat.le_trans h h1)))
theorem ApQ.inj {X : QX} {m : Bool} (h : ApQ X) : Inj TA (X.M m) := by
  cases m
  · exact h.1
  · exact h.2.1
theorem lsQ_get {X : QX} {z : ZQ} {i : Nat} {q : Nat × va_E} (h : (lsQ X z)[i]? = some q) : (i < 157 ∧ q = (X.A.ad (i + 1), cel TA X.A z.1 (i + 1))) ∨ (157 ≤ i ∧ i < 314 ∧ q = (X.B.ad (i - 157 + 1), cel TA X.B z.2.1 (i - 157 + 1))) ∨ (i = 314 ∧ q = (X.oa, nE X.S.cI z.2.2)) := by
  have hA : (wsl TA X.A z.1).length = 157 := wsl_len
  have hB : (wsl TA X.B z.2.1).length = 157 := wsl_len
  unfold lsQ at h
  by_cases h1 : i < 314
  · rw [List.getElem?_append_left (by rw [List.length_append, hA, hB]; exact h1)] at h
    by_cases h2 : i < 157
    · rw [List.getElem?_append_left (by rw [hA]; exact h2)] at h
      obtain ⟨h3, e⟩ := wsl_spec h
      exact Or.inl ⟨h2, e⟩
    · rw [List.getElem?_append_right (by rw [hA]; omega), hA] at h
      obtain ⟨h3, e⟩ := wsl_spec h
      exact Or.inr (Or.inl ⟨by omega, h1, e⟩)
  · rw [List.getElem?_append_right (by rw [List.length_append, hA, hB]; omega), List.length_append, hA, hB] at h
    have h3 : i - (157 + 157) = 0 := by
      have := (List.getElem?_eq_some_iff.mp h).1
      rw [List.length_singleton] at this
      omega
    rw [h3] at h
    cases h
    exact Or.inr (Or.inr ⟨by omega, rfl⟩)
theorem lsQ_last {X : QX} {z : ZQ} : (lsQ X z)[314]? = some (X.oa, nE X.S.cI z.2.2) := by
  have hA : (wsl TA X.A z.1).length = 157 := wsl_len
  have hB : (wsl TA X.B z.2.1).length = 157 := wsl_len
  unfold lsQ
  rw [List.getElem?_append_right (by rw [List.length_append, hA, hB]; exact Nat.le_refl _), List.length_append, hA, hB]
  rfl
theorem lsQ_D {X : QX} {z : ZQ} {sz : Nat} (h : ApQ X) : va_D (AQ X sz) (lsQ X z) := by
  obtain ⟨h1, h2, h3, h4, h5⟩ := h
  have hn : TA.nn = 157 := rfl
  refine ⟨fun i j p q hp hq hpq => ?_, fun k q hk => ?_⟩
  · rcases lsQ_get hp with ⟨a, rfl⟩ | ⟨a, a', rfl⟩ | ⟨a, rfl⟩ <;> rcases lsQ_get hq with ⟨b, rfl⟩ | ⟨b, b', rfl⟩ | ⟨b, rfl⟩
    · have := h1 (i + 1) (j + 1) (by omega) (by omega) (by omega) (by omega) hpq
      omega
    · exact absurd hpq (h5 _ _ (by omega) (by omega) (by omega) (by omega))
    · exact absurd hpq (h3 _ (by omega) (by omega))
    · exact absurd hpq.symm (h5 _ _ (by omega) (by omega) (by omega) (by omega))
    · have := h2 (i - 157 + 1) (j - 157 + 1) (by omega) (by omega) (by omega) (by omega) hpq
      omega
    · exact absurd hpq (h4 _ (by omega) (by omega))
    · exact absurd hpq.symm (h3 _ (by omega) (by omega))
    · exact absurd hpq.symm (h4 _ (by omega) (by omega))
    · omega
  · rcases lsQ_get hk with ⟨a, rfl⟩ | ⟨a, a', rfl⟩ | ⟨a, rfl⟩
    · exact Or.inl ⟨_, by omega, by omega, rfl⟩
    · exact Or.inr (Or.inl ⟨_, by omega, by omega, rfl⟩)
    · exact Or.inr (Or.inr (Or.inl rfl))
theorem lsQ_A {X : QX} {z : ZQ} {H : Heap} (h : va_P X.S.D vwCl (lsQ X z) H) : va_P X.S.D vwCl (wsl TA X.A z.1) H := fun k q hq => h k q (by
  have hl := (List.getElem?_eq_some_iff.mp hq).1
  unfold lsQ
  rw [List.getElem?_append_left (by rw [List.length_append]; omega), List.getElem?_append_left hl]
  exact hq)
theorem lsQ_B {X : QX} {z : ZQ} {H : Heap} (h : va_P X.S.D vwCl (lsQ X z) H) : va_P X.S.D vwCl (wsl TA X.B z.2.1) H := fun k q hq => h ((wsl TA X.A z.1).length + k) q (by
  have hl := (List.getElem?_eq_some_iff.mp hq).1
  unfold lsQ
  rw [List.getElem?_append_left (by rw [List.length_append]; omega), List.getElem?_append_right (by omega), Nat.add_sub_cancel_left]
  exact hq)
theorem lsQ_N {X : QX} {z : ZQ} {H : Heap} (h : va_P X.S.D vwCl (lsQ X z) H) : va_P X.S.D vwCl [(X.oa, nE X.S.cI z.2.2)] H := fun k q hq => by
  cases k with
  | zero => cases hq; exact h 314 _ lsQ_last
  | succ k => cases hq
theorem lsQ_M {X : QX} {z : ZQ} {H : Heap} (m : Bool) (h : va_P X.S.D vwCl (lsQ X z) H) : va_P (X.M m).D TA.cl (wsl TA (X.M m) (zg z m)) H := by
  cases m
  · exact lsQ_A h
  · exact lsQ_B h
theorem lsQ_put {X : QX} {z : ZQ} {H H1 : Heap} {m : Bool} {w' : World} (hA : ApQ X) (h : va_P X.S.D vwCl (lsQ X z) H) (h1 : va_P (X.M m).D TA.cl (wsl TA (X.M m) w') H1) (hk : ∀ q : Nat, q < H.size → ¬ AA TA (X.M m) H.size q → H1[q]? = H[q]?) : va_P X.S.D vwCl (lsQ X (zs z m w')) H1 := by
  have hN : va_P X.S.D vwCl [(X.oa, nE X.S.cI z.2.2)] H1 := va_P.kept (lsQ_N h) (fun k q hq => by
    have hlt := vx_lt (lsQ_N h) hq
    cases k with
    | zero =>
      cases hq
      refine hk _ hlt ?_
      rintro (⟨c, c0, c1, e⟩ | e)
      · cases m
        · exact hA.2.2.1 c c0 c1 e.symm
        · exact hA.2.2.2.1 c c0 c1 e.symm
      · exact absurd hlt (Nat.not_lt.mpr e)
    | succ k => cases hq)
  cases m
  · have hB : va_P X.S.D vwCl (wsl TA X.B z.2.1) H1 := keepP (lsQ_B h) (fun c c0 c1 hlt => hk _ hlt (by
      rintro (⟨c', h0, h2, e⟩ | e)
      · exact hA.2.2.2.2 c' c h0 h2 c0 c1 e.symm
      · exact absurd hlt (Nat.not_lt.mpr e)))
    exact va_P.app (va_P.app h1 hB) hN
  · have hB : va_P X.S.D vwCl (wsl TA X.A z.1) H1 := keepP (lsQ_A h) (fun c c0 c1 hlt => hk _ hlt (by
      rintro (⟨c', h0, h2, e⟩ | e)
      · exact hA.2.2.2.2 c c' c0 c1 h0 h2 e
      · exact absurd hlt (Nat.not_lt.mpr e)))
    exact va_P.app (va_P.app hB h1) hN
theorem OkZ.g {z : ZQ} {m : Bool} (h : OkZ z) : RW (zg z m) ∧ Fx TA (zg z m) := by
  cases m
  · exact h.1
  · exact h.2.1
theorem OkZ.s {z : ZQ} {m : Bool} {w : World} (h : OkZ z) (h1 : RW w) (h2 : Fx TA w) : OkZ (zs z m w) := by
  cases m
  · exact ⟨⟨h1, h2⟩, h.2.1, h.2.2⟩
  · exact ⟨h.1, ⟨h1, h2⟩, h.2.2⟩
def kc (K : KT) : Nat := K.2.2.2.2.2.2.2.2.2.2.1
def ks (K : KT) : Nat := K.2.2.2.2.2.2.2.2.2.2.2.1
/-- the room for T calls that may throw -/
def RmQ (K : KT) (rm : Room) (T : Nat) : Prop := kc K + T ≤ rm.cells ∧ ks K + 6 * T ≤ rm.slots
def KofQ (X : QX) (K : KT) (H0 : Heap) (cc : ByteArray) (own : String) (rm : Room) (T : Nat) : Prop := Ok K cc own rm ∧ GdQ X K H0 ∧ RmQ K rm T ∧ (kL K).stackTraces = false
def ConQ (X : QX) (l : Launch) (y : MethodName) (ws : List Cond) (rm : Room) (vs : List Value) (z z' : ZQ) (r : Int) : Prop :=
  ∀ sz : Nat, Met l y ws rm (va_Pc vs (PreQ X z sz)) (va_Qi (fun (v : Int32) (_ : Unit) => v.toInt = r) (fun _ t => OkZ z' ∧ va_P X.S.D vwCl (lsQ X z') t.heap) (AQ X sz)) rm.cells rm.slots (AQ X sz)
def ConQV (X : QX) (l : Launch) (y : MethodName) (ws : List Cond) (rm : Room) (vs : List Value) (z z' : ZQ) : Prop :=
  ∀ sz : Nat, Met l y ws rm (va_Pc vs (PreQ X z sz)) (va_Qv (fun (_ : Unit) => True) (fun _ t => OkZ z' ∧ va_P X.S.D vwCl (lsQ X z') t.heap) (AQ X sz)) rm.cells rm.slots (AQ X sz)
def ConQW (X : QX) (l : Launch) (y : MethodName) (ws : List Cond) (rm : Room) (vs : List Value) (z z' : ZQ) (r : Int) : Prop :=
  ∀ sz : Nat, vx_Met l y ws rm (va_Pc vs (PreQ X z sz)) (va_Qi (fun (v : Int32) (_ : Unit) => v.toInt = r) (fun _ t => OkZ z' ∧ va_P X.S.D vwCl (lsQ X z') t.heap) (AQ X sz)) (vx_X (fun (_ : Unit) => False) (fun _ _ _ => True) (AQ X sz)) 1 6 (AQ X sz)
section JQ
variable {X : QX} {K : KT} {z z' : ZQ} {H0 : Heap} {pc idx : Nat} {L : List (Option Value)} {st vs : List Value} {cc bytes : ByteArray} {own : String} {rm rm' : Room} {y : MethodName} {maxL np t T : Nat} {ret : Option FieldType} {b κ : Nat} {hh : List (Nat × Nat × Nat × Nat)} {m : Bool}
theorem J_wid {ω : Type} {Wd : ω → Heap → List Loc → Prop} {w : ω} {u : Nat} (h : t ≤ u) (k : Jj (kAdd K u (6 * u)) Wd w pc L st) : Jj (kAdd K t (6 * t)) Wd w pc L st := by
  obtain ⟨p, l, e, R, s, m, args, below, meth, c, cells, slots, Q⟩ := K
  intro H locs ls hW hl hc
  refine W.widen (k := cells + u) (n := slots + 6 * u) (Nat.add_le_add_left h _) (by show slots + 6 * t ≤ slots + 6 * u; omega) ?_
  exact k H locs ls hW hl hc
theorem J_OkZ (h : OkZ z → Jj K (WdQ X H0) z pc L st) : Jj K (WdQ X H0) z pc L st := by
  obtain ⟨p, l, e, R, s, m, args, below, meth, c, cells, slots, Q⟩ := K
  intro H locs ls hW hl hc
  exact h hW.1 H locs ls hW hl hc
theorem J_nld {i : Int} (o : Ok K cc own rm) (g : GdQ X K H0) (d : decode cc pc = .ok (.iaload, 1)) (hi : R32 i) (hb : 0 ≤ i ∧ i < 6) (k : R32 (z.2.2 i.toNat) → Jj K (WdQ X H0) z (pc + 1) L (.int (ii (z.2.2 i.toNat)) :: st)) : Jj K (WdQ X H0) z pc L (.int (ii i) :: .ref X.oa :: st) := by
  refine J_OkZ fun hz => ?_
  have k := k (hz.2.2 _)
  obtain ⟨p, l, e, R, s, m, args, below, meth, c, cells, slots, Q⟩ := K
  intro H locs ls hW hl hc
  have h2 := k H locs ls hW hl hc
  obtain ⟨-, hP, hS⟩ := hW
  obtain ⟨⟨gK, -⟩, -⟩ := g
  refine va_iald (D := X.S.D) o.1 o.2.1 gK (lsQ_N hP) 0 0 rfl rfl (vp_in_ii hi (by exact hb)) d ?_
  rw [ii_clamp hi]
  exact h2
theorem J_nst {i v : Int} (o : Ok K cc own rm) (g : GdQ X K H0) (d : decode cc pc = .ok (.iastore, 1)) (hi : R32 i) (hb : 0 ≤ i ∧ i < 6) (hv : R32 v) (k : Jj K (WdQ X H0) (zn z i.toNat v) (pc + 1) L st) : Jj K (WdQ X H0) z pc L (.int (ii v) :: .int (ii i) :: .ref X.oa :: st) := by
  obtain ⟨p, l, e, R, s, m, args, below, meth, c, cells, slots, Q⟩ := K
  intro H locs ls hW hl hc
  obtain ⟨hz, hP, hS⟩ := hW
  obtain ⟨⟨gK, -⟩, gA, -⟩ := g
  refine va_iast (D := X.S.D) (A := AQ X H0.size) o.1 o.2.1 gK hP (lsQ_D gA) hS 314 0 lsQ_last rfl (vp_in_ii hi (by exact hb)) d (fun H1 locs1 hP1 _ hS1 => ?_)
  have hset : (lsQ X z).set 314 (X.oa, .inl (X.S.cI, 6, .inl (va_up (fun j => ii (z.2.2 j)) (ii i).toNatClampNeg (ii v)))) = lsQ X (zn z i.toNat v) := by
    have hA : (wsl TA X.A z.1).length = 157 := wsl_len
    have hB : (wsl TA X.B z.2.1).length = 157 := wsl_len
    have e2 : va_up (fun j => ii (z.2.2 j)) i.toNat (ii v) = fun j => ii ((zn z i.toNat v).2.2 j) := by
      funext j
      unfold va_up zn
      by_cases hj : j = i.toNat
      · rw [if_pos hj]; show _ = ii (if j = i.toNat then v else z.2.2 j); rw [if_pos hj]
      · rw [if_neg hj]; show _ = ii (if j = i.toNat then v else z.2.2 j); rw [if_neg hj]
    rw [ii_clamp hi, e2]
    unfold lsQ
    rw [List.set_append_right _ _ (by rw [List.length_append, hA, hB]; exact Nat.le_refl _), List.length_append, hA, hB]
    rfl
  refine k H1 locs1 ls ⟨⟨hz.1, hz.2.1, fun j => ?_⟩, hset ▸ hP1, hS1⟩ hl hc
  show R32 (if j = i.toNat then v else z.2.2 j)
  split
  · exact hv
  · exact hz.2.2 j
theorem J_qsld {i : Int} (o : Ok K cc own rm) (g : GdQ X K H0) (d : decode cc pc = .ok (.iaload, 1)) (hi : R32 i) (hb : 0 ≤ i ∧ i < (X.n : Int)) (k : Jj K (WdQ X H0) z (pc + 1) L (.int (ii (scQ X i.toNat)) :: st)) : Jj K (WdQ X H0) z pc L (.int (ii i) :: .ref X.b :: st) := by
  obtain ⟨p, l, e, R, s, m, args, below, meth, c, cells, slots, Q⟩ := K
  intro H locs ls hW hl hc
  have h2 := k H locs ls hW hl hc
  obtain ⟨-, -, hS⟩ := hW
  obtain ⟨-, -, -, -, hX, hb1, hb2, -⟩ := g
  refine va_sld o.1 o.2.1 hX hb1 hb2 hS (vp_in_ii hi hb) d ?_
  rw [ii_clamp hi]
  have e9 : ii (scQ X i.toNat) = X.xs i.toNat := toInt_ii _
  rw [e9] at h2
  exact h2
theorem J_qslen (o : Ok K cc own rm) (g : GdQ X K H0) (d : decode cc pc = .ok (.arraylength, 1)) (k : R32 (X.n : Int) → Jj K (WdQ X H0) z (pc + 1) L (.int (ii (X.n : Int)) :: st)) : Jj K (WdQ X H0) z pc L (.ref X.b :: st) := by
  obtain ⟨p, l, e, R, s, m, args, below, meth, c, cells, slots, Q⟩ := K
  intro H locs ls hW hl hc
  obtain ⟨-, -, -, -, hX, hb1, hb2, hn⟩ := g
  have h2 := k ⟨by omega, by omega⟩ H locs ls hW hl hc
  obtain ⟨-, -, hS⟩ := hW
  refine va_slen o.1 o.2.1 hX hb1 hb2 hS d ?_
  have e9 : Int32.ofNat X.n = ii (X.n : Int) := (Int32.ofInt_eq_ofNat).symm
  rw [e9]
  exact h2
/-- a call of the class that doesn't throw -/
theorem run_Vq {T : TT} {E : EE} {w : World} {p : Program} {e : Env} {l : Launch} {R : Room} {s : State} {m : MethodId} {args : Array Value} {below : List Frame} {meth : Method} {cd : Code} {cells slots : Nat} {Q : State → Prop} {H : Heap} {locs : List Loc} {ls : Array Slot} {Qc : Array Value → State → Outcome → State → Prop}
    (o : Ok (p, l, e, R, s, m, args, below, meth, cd, cells, slots, Q) cc own rm) (g : Gd T E (p, l, e, R, s, m, args, below, meth, cd, cells, slots, Q)) (d : decode cc pc = .ok (.invokevirtual idx, 3)) (lk : LK own idx y) (ml : ML y bytes maxL ret np) (vl : VL y) (hrm : rmLe rm' rm maxL)
    (hM : Met l y (WS y bytes maxL ret) rm' (va_Pc (rf E.ad b :: vs) (PreA T E w H.size)) Qc 0 0 (AA T E H.size)) (hb : T.kd b = κ) (hcn : (T.cl[κ - 1]?).map (fun q => q.1) = some y.cls) (hκ : 0 < κ ∧ κ < 40) (hn : vs.length = np) (hst : c1s st) (hcl : cells ≤ R.cells) (hsl : slots ≤ R.slots)
    (hR : RW w) (hF : Fx T w) (hP : va_P E.D T.cl (wsl T E w) H) (hl : hasL cd ls L) : va_Run p l e R s m args below meth cd H locs cells slots 0 0 (F0 m pc ls (vs.reverse ++ rf E.ad b :: st)) st (Qc (Value.ref (E.ad b) :: vs).toArray) (AA T E H.size) := by
  obtain ⟨gK, gI, gT, gN⟩ := g
  obtain ⟨c0, c1⟩ := gT b (by omega)
  rw [rf_p c0] at hM ⊢
  have he := wsl_get (E := E) (w := w) c0 c1
  rw [cel_obj hb hκ.2] at he
  obtain ⟨q, hq, hq1⟩ := Option.map_eq_some_iff.mp hcn
  have hrv := va_recv gK hP hq he
  rw [hq1] at hrv
  obtain ⟨k1, k2, k3, k4, k5⟩ := call_core o ml hrm
  have hpre : PreV s H y.cls (E.ad b) (va_Pc (Value.ref (E.ad b) :: vs) (PreA T E w H.size)) vs := ⟨PreA_blind, hrv, fun U hU hW => ⟨rfl, by rw [hU], hR, hF, by rw [hU]; exact hP, va_K.moved hW.alike gK, gN.warm hW⟩⟩
  rcases lk with h | ⟨host, h⟩
  · exact va_runV (Ts := GW) (nL := cd.maxLocals) (As := vs) (rest := st) ⟨o.1, o.2.1, rfl, o.2.2.1, o.2.2.2.1⟩ hM ⟨⟨k1.1, k1.2.1, k1.2.2.1, k1.2.2.2.1, k1.2.2.2.2.1, k1.2.2.2.2.2, k2, k3, k4, k5, o.2.2.2.1 _ h⟩, o.2.2.2.1 _ vl.1, o.2.2.2.1 _ vl.2⟩ hpre rfl hn hl.1 rfl (lv_room (c1s_sum hst)) d ⟨hcl, hsl⟩
  · exact va_runVN (Ts := GW) (nL := cd.maxLocals) (As := vs) (rest := st) ⟨o.1, o.2.1, rfl, o.2.2.1, o.2.2.2.1⟩ hM ⟨⟨k1, k2, k3, k4, k5, va_Nw.use rfl (gN.2.1 _ _ _ _ h)⟩, o.2.2.2.1 _ vl.1, o.2.2.2.1 _ vl.2⟩ hpre rfl hn hl.1 rfl (lv_room (c1s_sum hst)) d ⟨hcl, hsl⟩
theorem J_qaI {r : Int} {w' : World} {stk : List Value} (o : Ok K cc own rm) (g : GdQ X K H0) (hr : RmQ K rm T) (ht : t ≤ T) (d : decode cc pc = .ok (.invokevirtual idx, 3)) (lk : LK own idx y) (ml : ML y bytes maxL ret np) (vl : VL y) (hrm : rmLe rm' rm maxL)
    (hM : ConI TA (X.M m) (kL K) y (WS y bytes maxL ret) rm' (rf (X.M m).ad b :: vs) (zg z m) w' r) (hb : TA.kd b = κ) (hcn : (TA.cl[κ - 1]?).map (fun q => q.1) = some y.cls) (hκ : 0 < κ ∧ κ < 40) (hn : vs.length = np) (hk : stk = vs.reverse ++ rf (X.M m).ad b :: st) (hst : c1s st)
    (k : R32 r → Jj (kAdd K t (6 * t)) (WdQ X H0) (zs z m w') (pc + 3) L (.int (ii r) :: st)) : Jj (kAdd K t (6 * t)) (WdQ X H0) z pc L stk := by
  subst hk
  obtain ⟨p, l, e, R, s, mm, args, below, meth, cd, cells, slots, Q⟩ := K
  have hRr : R = rm := o.2.2.2.2.2
  have hr1 : cells + T ≤ rm.cells := hr.1
  have hr2 : slots + 6 * T ≤ rm.slots := hr.2
  intro H locs ls hW hl hc
  obtain ⟨hz, hP, hS⟩ := hW
  obtain ⟨⟨gK, gN, gX, gY⟩, gA, -⟩ := g
  obtain ⟨hRw, hFw⟩ := hz.g (m := m)
  have hc1 : cells + t ≤ R.cells := by rw [hRr]; omega
  have hc2 : slots + 6 * t ≤ R.slots := by rw [hRr]; omega
  show W p l e R s mm args below meth cd H locs (cells + t) (slots + 6 * t) Q (F0 mm pc ls (vs.reverse ++ rf (X.M m).ad b :: st))
  refine va_calli (run_Vq (T := TA) (E := X.M m) (w := zg z m) (p := p) (l := l) (e := e) (R := R) (s := s) (m := mm) (args := args) (below := below) (meth := meth) (cd := cd) (Q := Q) (cells := cells + t) (slots := slots + 6 * t) o ⟨gK, gA.inj, TnA, gN⟩ d lk ml vl hrm (hM H.size) hb hcn hκ hn hst hc1 hc2 hRw hFw (lsQ_M m hP) hl) hS (fun q _ h => AA_AQ hS.1 q h) (AA_AQ hS.1) (fun v u t1 H1 locs1 ht1 hvm hv hB hz1 hk1 hS1 => ?_)
  have hr3 : R32 r := by rw [← hv]; exact R_toInt v
  have hv2 : v = ii r := by rw [← hv]; exact (toInt_ii v).symm
  rw [hv2]
  have hP1 := hB.2.2.1
  rw [ht1] at hP1
  exact k hr3 H1 locs1 ls ⟨hz.s hB.1 hB.2.1, lsQ_put gA hP hP1 hk1, hS1⟩ hl hc
/-- a call of the class that may throw, out of a wrapper -/
theorem J_qxI {out : World × Nat × Int} {stk : List Value} (o : Ok K cc own rm) (g : GdQ X K H0) (kc0 : KC K 0 0) (d : decode cc pc = .ok (.invokevirtual idx, 3)) (lk : Cond.methodLink own idx y ∈ GW) (ml : ML y bytes maxL ret np) (vl : VL y) (hrm : rm'.cells = 1 ∧ rm'.slots = 6 ∧ rm'.frames + 1 ≤ rm.frames ∧ 8 + (maxL + 11) + rm'.locals ≤ rm.locals) (hroom : 1 ≤ rm.cells ∧ 6 ≤ rm.slots)
    (hM : ConXI TA (X.M m) (kL K) y (WS y bytes maxL ret) rm' (rf (X.M m).ad b :: vs) (zg z m) out) (hb : TA.kd b = κ) (hcn : (TA.cl[κ - 1]?).map (fun q => q.1) = some y.cls) (hκ : 0 < κ ∧ κ < 40) (hn : vs.length = np) (hk : stk = vs.reverse ++ rf (X.M m).ad b :: st) (hst : c1s st)
    (kk : out.2.1 = 0 → R32 out.2.2 → Jj (kAdd K 1 6) (WdQ X H0) (zs z m out.1) (pc + 3) L (.int (ii out.2.2) :: st)) (kx : out.2.1 ≠ 0 → Jx (kAdd K 1 6) (WdQ X H0) (zs z m out.1) pc L out.2.1) : Jj K (WdQ X H0) z pc L stk := by
  subst hk
  obtain ⟨p, l, e, R, s, mm, args, below, meth, cd, cells, slots, Q⟩ := K
  intro H locs ls hW hl hc
  obtain ⟨hz, hP, hS⟩ := hW
  obtain ⟨⟨gK, gN, gX, gY⟩, gA, gH, gh, -⟩ := g
  have gh : s.heap = H0 := gh
  subst gh
  obtain ⟨hR, hF⟩ := hz.g (m := m)
  have hPw := lsQ_M m hP
  have gK1 : va_K (X.M m).D TA.cl (tysE TA (X.M m)) s := gK
  obtain ⟨c0, c1⟩ := TnA b (by omega)
  have hM := hM H.size
  rw [rf_p c0] at hM ⊢
  have he := wsl_get (T := TA) (E := X.M m) (w := zg z m) c0 c1
  rw [cel_obj hb hκ.2] at he
  obtain ⟨q, hq, hq1⟩ := Option.map_eq_some_iff.mp hcn
  have hrv := va_recv gK1 hPw hq he
  rw [hq1] at hrv
  obtain ⟨m1, m2, m3, m4, m5⟩ := ml
  have hts := o.2.2.2.1
  have hRr : R = rm := o.2.2.2.2.2
  have hlen : ∀ sig, parseMethodDescriptor y.desc = some sig → np = sig.parameters.length := fun sig h => by
    rw [h] at m5
    exact (Option.some.inj m5).symm
  have hxh : XH (AA TA (X.M m) H.size) s H := (gH.kept hS.2.1).narrow (AA_AQ hS.1)
  have hpre : PreV s H y.cls ((X.M m).ad b) (va_Pc (Value.ref ((X.M m).ad b) :: vs) (PreX TA (X.M m) (zg z m) H.size)) vs := ⟨PreX_blind, hrv, fun U hU hWm => ⟨rfl, ⟨by rw [hU], hR, hF, by rw [hU]; exact hPw, va_K.moved hWm.alike gK1, gN.warm hWm⟩, gX.warm hWm, by rw [hU]; exact hxh.moved hWm.alike⟩⟩
  have e0 : cells = 0 := kc0.1
  have e1 : slots = 0 := kc0.2
  have run := vx_runV (p := p) (l := l) (e := e) (R := R) (s := s) (m := mm) (args := args) (below := below) (meth := meth) (c := cd) (H := H) (locs := locs) (cells := cells) (slots := slots) (Ts := GW) (nL := cd.maxLocals) (As := vs) (rest := st) (g := F0 mm pc ls (vs.reverse ++ Value.ref ((X.M m).ad b) :: st)) ⟨o.1, o.2.1, rfl, o.2.2.1, hts⟩ hM ⟨⟨hrm.1, hrm.2.1, by rw [hRr]; exact hrm.2.2.1, by rw [hRr]; exact hrm.2.2.2, pay_in hts (goodIn_WS m1), List.mem_cons_self, hts _ m1, hts _ m2, ⟨m3, m4⟩, hlen, hts _ lk⟩, hts _ vl.1, hts _ vl.2⟩ hpre rfl hn hl.1 rfl (lv_room (c1s_sum hst)) d ⟨by rw [hRr]; show cells + 1 ≤ rm.cells; omega, by rw [hRr]; show slots + 6 ≤ rm.slots; omega⟩
  refine vx_calli run hS (fun q _ h => AA_AQ hS.1 q h) (AA_AQ hS.1) (fun q _ h => AA_AQ hS.1 q h) ?_ ?_
  · intro En ce q9 u t H1 locs1 ht hvm hu hB hz1 hk1 hS1 hce hcv hcl
    obtain ⟨hn0, rfl, hR1, hF1, hP1⟩ := hB
    rw [ht] at hP1
    exact kx hn0 H1 locs1 ls q9 ce st ⟨hz.s hR1 hF1, lsQ_put gA hP hP1 hk1, hS1⟩ hl hc hce hcv hcl
  · intro r u t H1 locs1 ht hvm hv hB hz1 hk1 hS1
    obtain ⟨h0, hr⟩ := hv
    obtain ⟨hR1, hF1, hP1, -, -⟩ := hB
    rw [ht] at hP1
    have hr32 : R32 out.2.2 := by rw [← hr]; exact R_toInt r
    have hr2 : r = ii out.2.2 := by rw [← hr]; exact (toInt_ii r).symm
    rw [hr2]
    exact kk h0 hr32 H1 locs1 ls ⟨hz.s hR1 hF1, lsQ_put gA hP hP1 hk1, hS1⟩ hl hc
theorem J_qxV {out : World × Nat × Int} {stk : List Value} (o : Ok K cc own rm) (g : GdQ X K H0) (kc0 : KC K 0 0) (d : decode cc pc = .ok (.invokevirtual idx, 3)) (lk : Cond.methodLink own idx y ∈ GW) (ml : ML y bytes maxL ret np) (vl : VL y) (hrm : rm'.cells = 1 ∧ rm'.slots = 6 ∧ rm'.frames + 1 ≤ rm.frames ∧ 8 + (maxL + 11) + rm'.locals ≤ rm.locals) (hroom : 1 ≤ rm.cells ∧ 6 ≤ rm.slots)
    (hM : ConXV TA (X.M m) (kL K) y (WS y bytes maxL ret) rm' (rf (X.M m).ad b :: vs) (zg z m) out) (hb : TA.kd b = κ) (hcn : (TA.cl[κ - 1]?).map (fun q => q.1) = some y.cls) (hκ : 0 < κ ∧ κ < 40) (hn : vs.length = np) (hk : stk = vs.reverse ++ rf (X.M m).ad b :: st) (hst : c1s st)
    (kk : out.2.1 = 0 → Jj (kAdd K 1 6) (WdQ X H0) (zs z m out.1) (pc + 3) L st) (kx : out.2.1 ≠ 0 → Jx (kAdd K 1 6) (WdQ X H0) (zs z m out.1) pc L out.2.1) : Jj K (WdQ X H0) z pc L stk := by
  subst hk
  obtain ⟨p, l, e, R, s, mm, args, below, meth, cd, cells, slots, Q⟩ := K
  intro H locs ls hW hl hc
  obtain ⟨hz, hP, hS⟩ := hW
  obtain ⟨⟨gK, gN, gX, gY⟩, gA, gH, gh, -⟩ := g
  have gh : s.heap = H0 := gh
  subst gh
  obtain ⟨hR, hF⟩ := hz.g (m := m)
  have hPw := lsQ_M m hP
  have gK1 : va_K (X.M m).D TA.cl (tysE TA (X.M m)) s := gK
  obtain ⟨c0, c1⟩ := TnA b (by omega)
  have hM := hM H.size
  rw [rf_p c0] at hM ⊢
  have he := wsl_get (T := TA) (E := X.M m) (w := zg z m) c0 c1
  rw [cel_obj hb hκ.2] at he
  obtain ⟨q, hq, hq1⟩ := Option.map_eq_some_iff.mp hcn
  have hrv := va_recv gK1 hPw hq he
  rw [hq1] at hrv
  obtain ⟨m1, m2, m3, m4, m5⟩ := ml
  have hts := o.2.2.2.1
  have hRr : R = rm := o.2.2.2.2.2
  have hlen : ∀ sig, parseMethodDescriptor y.desc = some sig → np = sig.parameters.length := fun sig h => by
    rw [h] at m5
    exact (Option.some.inj m5).symm
  have hxh : XH (AA TA (X.M m) H.size) s H := (gH.kept hS.2.1).narrow (AA_AQ hS.1)
  have hpre : PreV s H y.cls ((X.M m).ad b) (va_Pc (Value.ref ((X.M m).ad b) :: vs) (PreX TA (X.M m) (zg z m) H.size)) vs := ⟨PreX_blind, hrv, fun U hU hWm => ⟨rfl, ⟨by rw [hU], hR, hF, by rw [hU]; exact hPw, va_K.moved hWm.alike gK1, gN.warm hWm⟩, gX.warm hWm, by rw [hU]; exact hxh.moved hWm.alike⟩⟩
  have e0 : cells = 0 := kc0.1
  have e1 : slots = 0 := kc0.2
  have run := vx_runV (p := p) (l := l) (e := e) (R := R) (s := s) (m := mm) (args := args) (below := below) (meth := meth) (c := cd) (H := H) (locs := locs) (cells := cells) (slots := slots) (Ts := GW) (nL := cd.maxLocals) (As := vs) (rest := st) (g := F0 mm pc ls (vs.reverse ++ Value.ref ((X.M m).ad b) :: st)) ⟨o.1, o.2.1, rfl, o.2.2.1, hts⟩ hM ⟨⟨hrm.1, hrm.2.1, by rw [hRr]; exact hrm.2.2.1, by rw [hRr]; exact hrm.2.2.2, pay_in hts (goodIn_WS m1), List.mem_cons_self, hts _ m1, hts _ m2, ⟨m3, m4⟩, hlen, hts _ lk⟩, hts _ vl.1, hts _ vl.2⟩ hpre rfl hn hl.1 rfl (lv_room (c1s_sum hst)) d ⟨by rw [hRr]; show cells + 1 ≤ rm.cells; omega, by rw [hRr]; show slots + 6 ≤ rm.slots; omega⟩
  refine vx_callv run hS (fun q _ h => AA_AQ hS.1 q h) (AA_AQ hS.1) (fun q _ h => AA_AQ hS.1 q h) ?_ ?_
  · intro En ce q9 u t H1 locs1 ht hvm hu hB hz1 hk1 hS1 hce hcv hcl
    obtain ⟨hn0, rfl, hR1, hF1, hP1⟩ := hB
    rw [ht] at hP1
    exact kx hn0 H1 locs1 ls q9 ce st ⟨hz.s hR1 hF1, lsQ_put gA hP hP1 hk1, hS1⟩ hl hc hce hcv hcl
  · intro u t H1 locs1 ht hvm hv hB hz1 hk1 hS1
    obtain ⟨hR1, hF1, hP1, -, -⟩ := hB
    rw [ht] at hP1
    exact kk hv H1 locs1 ls ⟨hz.s hR1 hF1, lsQ_put gA hP hP1 hk1, hS1⟩ hl hc
theorem J_qcatch {n : Nat} (o : Ok K cc "DatalogmillLaw" rm) (g : GdQ X K H0) (gT : (kC K).exceptionTable.toList = tableOf hh) (pre : List (Nat × Nat × Nat × Nat)) (x : Nat × Nat × Nat × Nat) (suf : List (Nat × Nat × Nat × Nat)) (hs : hh = pre ++ x :: suf) (hn : n = 1 ∨ n = 2 ∨ n = 3) (hp : aheadOk n pre) (hx : x.1 ≤ pc ∧ pc < x.2.1) (h0 : x.2.2.2 ≠ 0) (hlk : Cond.classLink "DatalogmillLaw" x.2.2.2 (xName n) ∈ GW)
    (kk : ∀ q : Nat, Jj K (WdQ X H0) z x.2.2.1 L [.ref q]) : Jx K (WdQ X H0) z pc L n := by
  obtain ⟨p, l, e, R, s, m, args, below, meth, c, cells, slots, Q⟩ := K
  intro H locs ls q ce rest hW hl hc hce hcv hcl
  obtain ⟨⟨gK, gN, gX, gY⟩, -⟩ := g
  have gT : c.exceptionTable.toList = tableOf hh := gT
  refine vx_catch (own := "DatalogmillLaw") (name := xName n) (E := xName n) o.2.2.1 (tableOf pre) ⟨x.1, x.2.1, x.2.2.1, x.2.2.2⟩ (tableOf suf) (by rw [gT, hs]; unfold tableOf; rw [List.map_append, List.map_cons]) (fun z hz => ?_) ?_ h0 (o.2.2.2.1 _ hlk) ?_ hce hcv hcl (kk q H locs ls hW hl hc)
  · unfold tableOf at hz
    obtain ⟨z0, hz0, rfl⟩ := List.mem_map.mp hz
    obtain ⟨h1, a, ha, hna, hlk2⟩ := hp z0 hz0
    exact Or.inr ⟨h1, xName a, o.2.2.2.1 _ hlk2, gY n a hn ha hna⟩
  · unfold covers
    simp [hx.1, hx.2]
  · have hm : Cond.castable (xName n) (xName n) ∈ xOther := by
      rcases hn with rfl | rfl | rfl <;> simp [xOther]
    refine va_Nw.use ?_ (gX.1 _ hm)
    rfl
/-- what a call of the law's own methods needs -/
theorem preQ_of {p : Program} {l : Launch} {e : Env} {R : Room} {s : State} {mm : MethodId} {args : Array Value} {below : List Frame} {meth : Method} {cd : Code} {cells slots : Nat} {Q : State → Prop} {H : Heap} {locs : List Loc} (g : GdQ X (p, l, e, R, s, mm, args, below, meth, cd, cells, slots, Q) H0) (hW : WdQ X H0 z H locs) : PreS s H (va_Pc vs (PreQ X z H.size)) vs := by
  obtain ⟨hz, hP, hS⟩ := hW
  obtain ⟨gk, gA, gH, gh, gx, g1, g2, g3⟩ := g
  have gh : s.heap = H0 := gh
  subst gh
  have hxh : XH (AQ X H.size) s H := (gH.kept hS.2.1).narrow (AQ_sub hS.1)
  have hsx : va_X X.b X.n X.xs s H := va_X.kept gx (hS.2.1 _ g1 g2)
  exact ⟨PreQ_blind, fun U hU hWm => ⟨rfl, by rw [hU], ⟨hz, by rw [hU]; exact hP⟩, KsQ.warm hWm gk, by rw [hU]; exact hxh.moved hWm.alike, by rw [hU]; exact va_X.moved hWm.alike hsx, Nat.lt_of_lt_of_le g1 hS.1, fun h => g2 (AQ_sub hS.1 _ h), g3⟩⟩
theorem J_qW {r : Int} {stk : List Value} (o : Ok K cc own rm) (g : GdQ X K H0) (hr : RmQ K rm T) (ht : t + 1 ≤ T) (d : decode cc pc = .ok (.invokestatic idx, 3)) (lk : Cond.methodLink own idx y ∈ GW) (cw : Cond.codeWith y bytes maxL ret hh ∈ GW) (sl : Cond.static y ∈ GW) (ini : Cond.initialized y.cls ∈ GW) (hd : y.cls ≠ "java/lang/invoke/MethodHandle" ∧ y.cls ≠ "java/lang/invoke/VarHandle" ∧ (parseMethodDescriptor y.desc).map (fun d => d.parameters.length) = some np) (hrm : rm'.cells = 1 ∧ rm'.slots = 6 ∧ rm'.frames + 1 ≤ rm.frames ∧ 8 + (maxL + 11) + rm'.locals ≤ rm.locals)
    (hM : ConQW X (kL K) y (WSW y bytes maxL ret hh) rm' vs z z' r) (hn : vs.length = np) (hk : stk = vs.reverse ++ st) (hst : c1s st)
    (k : R32 r → Jj (kAdd K (t + 1) (6 * (t + 1))) (WdQ X H0) z' (pc + 3) L (.int (ii r) :: st)) : Jj (kAdd K t (6 * t)) (WdQ X H0) z pc L stk := by
  subst hk
  obtain ⟨p, l, e, R, s, mm, args, below, meth, cd, cells, slots, Q⟩ := K
  have hr1 : cells + T ≤ rm.cells := hr.1
  have hr2 : slots + 6 * T ≤ rm.slots := hr.2
  intro H locs ls hW hl hc
  have hpre := preQ_of (vs := vs) g hW
  obtain ⟨hz, hP, hS⟩ := hW
  have hts := o.2.2.2.1
  have hRr : R = rm := o.2.2.2.2.2
  have hlen : ∀ sig, parseMethodDescriptor y.desc = some sig → np = sig.parameters.length := fun sig h => by
    have h2 := hd.2.2
    rw [h] at h2
    exact (Option.some.inj h2).symm
  have hg : GoodIn GW (WSW y bytes maxL ret hh) := fun w hw => by
    have hm : w ∈ GW := by
      rcases List.mem_cons.mp hw with e | e
      · rw [e]; exact cw
      · exact e
    exact ⟨hm, good_of_word (GW_good w hm)⟩
  have run := vx_runSX (p := p) (l := l) (e := e) (R := R) (s := s) (m := mm) (args := args) (below := below) (meth := meth) (c := cd) (H := H) (locs := locs) (cells := cells + t) (slots := slots + 6 * t) (Ts := GW) (nL := cd.maxLocals) (As := vs) (rest := st) (g := F0 mm pc ls (vs.reverse ++ st)) (hh := hh) ⟨o.1, o.2.1, rfl, o.2.2.1, hts⟩ (hM H.size) ⟨⟨hrm.1, hrm.2.1, by rw [hRr]; exact hrm.2.2.1, by rw [hRr]; exact hrm.2.2.2, pay_in hts hg, List.mem_cons_self⟩, hts _ cw, hts _ ini, ⟨hd.1, hd.2.1⟩, hlen, hts _ lk, hts _ sl⟩ hpre rfl hn hl.1 rfl (lv_room (c1s_sum hst)) d ⟨by rw [hRr]; omega, by rw [hRr]; omega⟩
  refine vx_calli run hS (fun q _ h => AQ_sub hS.1 q h) (AQ_sub hS.1) (fun q _ h => AQ_sub hS.1 q h) (fun _ _ _ _ _ _ _ _ _ hu => hu.elim) ?_
  intro r1 u t1 H1 locs1 ht1 hvm hv hB hz1 hk1 hS1
  obtain ⟨hz', hP1⟩ := hB
  rw [ht1] at hP1
  have hr32 : R32 r := by rw [← hv]; exact R_toInt r1
  have hr2 : r1 = ii r := by rw [← hv]; exact (toInt_ii r1).symm
  rw [hr2]
  have hk := k hr32 H1 locs1 ls ⟨hz', hP1, hS1⟩ hl hc
  rw [show 6 * (t + 1) = 6 * t + 6 from rfl] at hk
  exact hk
theorem J_qS {r : Int} {stk : List Value} {c9 : Nat} (o : Ok K cc own rm) (g : GdQ X K H0) (hr : RmQ K rm T) (ht : t + c9 ≤ T) (d : decode cc pc = .ok (.invokestatic idx, 3)) (lk : Cond.methodLink own idx y ∈ GW) (ml : ML y bytes maxL ret np) (sl : Cond.static y ∈ GW) (hrm : rm'.cells = c9 ∧ rm'.slots = 6 * c9 ∧ rm'.frames + 1 ≤ rm.frames ∧ 8 + (maxL + 11) + rm'.locals ≤ rm.locals)
    (hM : ConQ X (kL K) y (WS y bytes maxL ret) rm' vs z z' r) (hn : vs.length = np) (hk : stk = vs.reverse ++ st) (hst : c1s st)
    (k : R32 r → Jj (kAdd K (t + c9) (6 * (t + c9))) (WdQ X H0) z' (pc + 3) L (.int (ii r) :: st)) : Jj (kAdd K t (6 * t)) (WdQ X H0) z pc L stk := by
  subst hk
  obtain ⟨p, l, e, R, s, mm, args, below, meth, cd, cells, slots, Q⟩ := K
  have hr1 : cells + T ≤ rm.cells := hr.1
  have hr2 : slots + 6 * T ≤ rm.slots := hr.2
  intro H locs ls hW hl hc
  have hpre := preQ_of (vs := vs) g hW
  obtain ⟨hz, hP, hS⟩ := hW
  obtain ⟨m1, m2, m3, m4, m5⟩ := ml
  have hts := o.2.2.2.1
  have hRr : R = rm := o.2.2.2.2.2
  have hlen : ∀ sig, parseMethodDescriptor y.desc = some sig → np = sig.parameters.length := fun sig h => by
    rw [h] at m5
    exact (Option.some.inj m5).symm
  have hM := hM H.size
  rw [hrm.1, hrm.2.1] at hM
  have run := va_runS (p := p) (l := l) (e := e) (R := R) (s := s) (m := mm) (args := args) (below := below) (meth := meth) (c := cd) (H := H) (locs := locs) (cells := cells + t) (slots := slots + 6 * t) (Ts := GW) (nL := cd.maxLocals) (As := vs) (rest := st) (g := F0 mm pc ls (vs.reverse ++ st)) ⟨o.1, o.2.1, rfl, o.2.2.1, hts⟩ hM ⟨⟨hrm.1, hrm.2.1, by rw [hRr]; exact hrm.2.2.1, by rw [hRr]; exact hrm.2.2.2, pay_in hts (goodIn_WS m1), List.mem_cons_self, hts _ m1, hts _ m2, ⟨m3, m4⟩, hlen, hts _ lk⟩, hts _ sl⟩ hpre rfl hn hl.1 rfl (lv_room (c1s_sum hst)) d ⟨by rw [hRr]; omega, by rw [hRr]; omega⟩
  refine va_calli run hS (fun q _ h => AQ_sub hS.1 q h) (AQ_sub hS.1) ?_
  intro r1 u t1 H1 locs1 ht1 hvm hv hB hz1 hk1 hS1
  obtain ⟨hz', hP1⟩ := hB
  rw [ht1] at hP1
  have hr32 : R32 r := by rw [← hv]; exact R_toInt r1
  have hr3 : r1 = ii r := by rw [← hv]; exact (toInt_ii r1).symm
  rw [hr3]
  have hk := k hr32 H1 locs1 ls ⟨hz', hP1, hS1⟩ hl hc
  have e1 : cells + (t + c9) = cells + t + c9 := by omega
  have e2 : slots + 6 * (t + c9) = slots + 6 * t + 6 * c9 := by omega
  have hk : W p l e R s mm args below meth cd H1 locs1 (cells + (t + c9)) (slots + 6 * (t + c9)) Q (F0 mm (pc + 3) ls (.int (ii r) :: st)) := hk
  rw [e1, e2] at hk
  exact hk
theorem J_qSV {stk : List Value} {c9 : Nat} (o : Ok K cc own rm) (g : GdQ X K H0) (hr : RmQ K rm T) (ht : t + c9 ≤ T) (d : decode cc pc = .ok (.invokestatic idx, 3)) (lk : Cond.methodLink own idx y ∈ GW) (ml : ML y bytes maxL ret np) (sl : Cond.static y ∈ GW) (hrm : rm'.cells = c9 ∧ rm'.slots = 6 * c9 ∧ rm'.frames + 1 ≤ rm.frames ∧ 8 + (maxL + 11) + rm'.locals ≤ rm.locals)
    (hM : ConQV X (kL K) y (WS y bytes maxL ret) rm' vs z z') (hn : vs.length = np) (hk : stk = vs.reverse ++ st) (hst : c1s st)
    (k : Jj (kAdd K (t + c9) (6 * (t + c9))) (WdQ X H0) z' (pc + 3) L st) : Jj (kAdd K t (6 * t)) (WdQ X H0) z pc L stk := by
  subst hk
  obtain ⟨p, l, e, R, s, mm, args, below, meth, cd, cells, slots, Q⟩ := K
  have hr1 : cells + T ≤ rm.cells := hr.1
  have hr2 : slots + 6 * T ≤ rm.slots := hr.2
  intro H locs ls hW hl hc
  have hpre := preQ_of (vs := vs) g hW
  obtain ⟨hz, hP, hS⟩ := hW
  obtain ⟨m1, m2, m3, m4, m5⟩ := ml
  have hts := o.2.2.2.1
  have hRr : R = rm := o.2.2.2.2.2
  have hlen : ∀ sig, parseMethodDescriptor y.desc = some sig → np = sig.parameters.length := fun sig h => by
    rw [h] at m5
    exact (Option.some.inj m5).symm
  have hM := hM H.size
  rw [hrm.1, hrm.2.1] at hM
  have run := va_runS (p := p) (l := l) (e := e) (R := R) (s := s) (m := mm) (args := args) (below := below) (meth := meth) (c := cd) (H := H) (locs := locs) (cells := cells + t) (slots := slots + 6 * t) (Ts := GW) (nL := cd.maxLocals) (As := vs) (rest := st) (g := F0 mm pc ls (vs.reverse ++ st)) ⟨o.1, o.2.1, rfl, o.2.2.1, hts⟩ hM ⟨⟨hrm.1, hrm.2.1, by rw [hRr]; exact hrm.2.2.1, by rw [hRr]; exact hrm.2.2.2, pay_in hts (goodIn_WS m1), List.mem_cons_self, hts _ m1, hts _ m2, ⟨m3, m4⟩, hlen, hts _ lk⟩, hts _ sl⟩ hpre rfl hn hl.1 rfl (lv_room (c1s_sum hst)) d ⟨by rw [hRr]; omega, by rw [hRr]; omega⟩
  refine va_callv run hS (fun q _ h => AQ_sub hS.1 q h) (AQ_sub hS.1) ?_
  intro u t1 H1 locs1 ht1 hvm hv hB hz1 hk1 hS1
  obtain ⟨hz', hP1⟩ := hB
  rw [ht1] at hP1
  have hk := k H1 locs1 ls ⟨hz', hP1, hS1⟩ hl hc
  have e1 : cells + (t + c9) = cells + t + c9 := by omega
  have e2 : slots + 6 * (t + c9) = slots + 6 * t + 6 * c9 := by omega
  have hk : W p l e R s mm args below meth cd H1 locs1 (cells + (t + c9)) (slots + 6 * (t + c9)) Q (F0 mm (pc + 3) ls st) := hk
  rw [e1, e2] at hk
  exact hk
/-- returns of the law's own methods -/
def RetQI (X : QX) (K : KT) (H0 : Heap) (cc : ByteArray) (T : Nat) (z' : ZQ) (r : Int) : Prop := ∀ (pc : Nat) (L : List (Option Value)) (t : Nat), t ≤ T → R32 r → decode cc pc = .ok (.ireturn, 1) → Jj (kAdd K t (6 * t)) (WdQ X H0) z' pc L [.int (ii r)]
def RetQZ (X : QX) (K : KT) (H0 : Heap) (cc : ByteArray) (T : Nat) (z' : ZQ) (r : Int) : Prop := ∀ (pc : Nat) (L : List (Option Value)) (t : Nat), t ≤ T → (r = 0 ∨ r = 1) → decode cc pc = .ok (.ireturn, 1) → Jj (kAdd K t (6 * t)) (WdQ X H0) z' pc L [.int (ii r)]
def RetQV (X : QX) (K : KT) (H0 : Heap) (cc : ByteArray) (T : Nat) (z' : ZQ) : Prop := ∀ (pc : Nat) (L : List (Option Value)) (t : Nat), t ≤ T → decode cc pc = .ok (.return_, 1) → Jj (kAdd K t (6 * t)) (WdQ X H0) z' pc L []
def RetQW (X : QX) (K : KT) (H0 : Heap) (cc : ByteArray) (z' : ZQ) (r : Int) : Prop := ∀ (pc : Nat) (L : List (Option Value)) (r' : Int), R32 r' → r' = r → decode cc pc = .ok (.ireturn, 1) → Jj (kAdd K 1 6) (WdQ X H0) z' pc L [.int (ii r')]
theorem con_QI {r : Int} (hy : plainName y.cls = true) (hret : ret = some .int) (hl : vs.length ≤ maxL) (hcv : ∀ v ∈ vs, v.category = 1) (hrm : rm.cells = T ∧ rm.slots = 6 * T) (hA : ApQ X) {l : Launch} (hst : l.stackTraces = false)
    (h : ∀ (K : KT) (H0 : Heap), KofQ X K H0 bytes y.cls rm T → RetQI X K H0 bytes T z' r → Jj (kAdd K 0 (6 * 0)) (WdQ X H0) z 0 (entL vs maxL) []) : ConQ X l y (WS y bytes maxL ret) rm vs z z' r := by
  intro sz
  refine Met.ofW (cc := bytes) (maxL := maxL) (ret := ret) hy rfl ?_
  intro p e s m args below meth c s₁ B hml hv
  obtain ⟨rfl, hsz, ⟨hz, hP⟩, hKs, hH, hX, hb1, hb2, hb3⟩ := hv
  have hts := atoms_spec (ws := WS y bytes maxL ret) B.pre
  have hown : s.vm.findClass y.cls = some m.cls := findClass_of_methodNamed B.named
  subst hsz
  rw [lg_entry_eq]
  obtain ⟨e1, e2⟩ := ent_has hl hml hcv
  refine h (p, l, e, (headSpec (WS y bytes maxL ret) rm).room, s, m, vs.toArray, below, meth, c, 0, 0, _) s.heap ⟨⟨B.exec, B.bytes, hown, fun w hw => hts w (List.mem_cons_of_mem _ hw), B.notSynchronized, rfl⟩, ⟨hKs, hA, hH, rfl, hX, hb1, hb2, hb3⟩, ⟨by show 0 + T ≤ rm.cells; omega, by show 0 + 6 * T ≤ rm.slots; omega⟩, hst⟩ ?_ s.heap [] _ ⟨hz, hP, va_S.rf⟩ e1 e2
  intro pc L t ht hx d H locs ls hW hl hc
  have hr := B.returns
  rw [hret] at hr
  have hlocks := B.notSynchronized
  refine W.widen (k := rm.cells) (n := rm.slots) (by show 0 + t ≤ rm.cells; omega) (by show 0 + 6 * t ≤ rm.slots; omega) ?_
  exact W.iret (v := ii r) B.exec B.bytes hr (fun t ht hWm => ⟨⟨ii r, (), rfl, ii_toInt hx, hW.1, by rw [ht]; exact hW.2.1⟩, hW.2.2.F ht⟩) hW.2.2.2.2 d
theorem con_QZ {r : Int} (hy : plainName y.cls = true) (hret : ret = some .boolean) (hl : vs.length ≤ maxL) (hcv : ∀ v ∈ vs, v.category = 1) (hrm : rm.cells = T ∧ rm.slots = 6 * T) (hA : ApQ X) {l : Launch} (hst : l.stackTraces = false)
    (h : ∀ (K : KT) (H0 : Heap), KofQ X K H0 bytes y.cls rm T → RetQZ X K H0 bytes T z' r → Jj (kAdd K 0 (6 * 0)) (WdQ X H0) z 0 (entL vs maxL) []) : ConQ X l y (WS y bytes maxL ret) rm vs z z' r := by
  intro sz
  refine Met.ofW (cc := bytes) (maxL := maxL) (ret := ret) hy rfl ?_
  intro p e s m args below meth c s₁ B hml hv
  obtain ⟨rfl, hsz, ⟨hz, hP⟩, hKs, hH, hX, hb1, hb2, hb3⟩ := hv
  have hts := atoms_spec (ws := WS y bytes maxL ret) B.pre
  have hown : s.vm.findClass y.cls = some m.cls := findClass_of_methodNamed B.named
  subst hsz
  rw [lg_entry_eq]
  obtain ⟨e1, e2⟩ := ent_has hl hml hcv
  refine h (p, l, e, (headSpec (WS y bytes maxL ret) rm).room, s, m, vs.toArray, below, meth, c, 0, 0, _) s.heap ⟨⟨B.exec, B.bytes, hown, fun w hw => hts w (List.mem_cons_of_mem _ hw), B.notSynchronized, rfl⟩, ⟨hKs, hA, hH, rfl, hX, hb1, hb2, hb3⟩, ⟨by show 0 + T ≤ rm.cells; omega, by show 0 + 6 * T ≤ rm.slots; omega⟩, hst⟩ ?_ s.heap [] _ ⟨hz, hP, va_S.rf⟩ e1 e2
  intro pc L t ht hb d H locs ls hW hl hc
  have hx : R32 r := by unfold R32; omega
  have hr := B.returns
  rw [hret] at hr
  have hlocks := B.notSynchronized
  refine W.widen (k := rm.cells) (n := rm.slots) (by show 0 + t ≤ rm.cells; omega) (by show 0 + 6 * t ≤ rm.slots; omega) ?_
  exact W.zret (v := ii r) B.exec B.bytes hr (by rcases hb with rfl | rfl <;> decide) (fun t ht hWm => ⟨⟨ii r, (), rfl, ii_toInt hx, hW.1, by rw [ht]; exact hW.2.1⟩, hW.2.2.F ht⟩) hW.2.2.2.2 d
theorem con_QV (hy : plainName y.cls = true) (hret : ret = none) (hl : vs.length ≤ maxL) (hcv : ∀ v ∈ vs, v.category = 1) (hrm : rm.cells = T ∧ rm.slots = 6 * T) (hA : ApQ X) {l : Launch} (hst : l.stackTraces = false)
    (h : ∀ (K : KT) (H0 : Heap), KofQ X K H0 bytes y.cls rm T → RetQV X K H0 bytes T z' → Jj (kAdd K 0 (6 * 0)) (WdQ X H0) z 0 (entL vs maxL) []) : ConQV X l y (WS y bytes maxL ret) rm vs z z' := by
  intro sz
  refine Met.ofW (cc := bytes) (maxL := maxL) (ret := ret) hy rfl ?_
  intro p e s m args below meth c s₁ B hml hv
  obtain ⟨rfl, hsz, ⟨hz, hP⟩, hKs, hH, hX, hb1, hb2, hb3⟩ := hv
  have hts := atoms_spec (ws := WS y bytes maxL ret) B.pre
  have hown : s.vm.findClass y.cls = some m.cls := findClass_of_methodNamed B.named
  subst hsz
  rw [lg_entry_eq]
  obtain ⟨e1, e2⟩ := ent_has hl hml hcv
  refine h (p, l, e, (headSpec (WS y bytes maxL ret) rm).room, s, m, vs.toArray, below, meth, c, 0, 0, _) s.heap ⟨⟨B.exec, B.bytes, hown, fun w hw => hts w (List.mem_cons_of_mem _ hw), B.notSynchronized, rfl⟩, ⟨hKs, hA, hH, rfl, hX, hb1, hb2, hb3⟩, ⟨by show 0 + T ≤ rm.cells; omega, by show 0 + 6 * T ≤ rm.slots; omega⟩, hst⟩ ?_ s.heap [] _ ⟨hz, hP, va_S.rf⟩ e1 e2
  intro pc L t ht d H locs ls hW hl hc
  have hr := B.returns
  rw [hret] at hr
  have hlocks := B.notSynchronized
  refine W.widen (k := rm.cells) (n := rm.slots) (by show 0 + t ≤ rm.cells; omega) (by show 0 + 6 * t ≤ rm.slots; omega) ?_
  exact W.vret B.exec B.bytes hr (fun t ht hWm => ⟨⟨(), rfl, trivial, hW.1, by rw [ht]; exact hW.2.1⟩, hW.2.2.F ht⟩) hW.2.2.2.2 d
theorem con_QW {r : Int} (hy : plainName y.cls = true) (hret : ret = some .int) (hl : vs.length ≤ maxL) (hcv : ∀ v ∈ vs, v.category = 1) (hA : ApQ X) {l : Launch} (hst : l.stackTraces = false)
    (h : ∀ (K : KT) (H0 : Heap), Ok K bytes y.cls rm → GdQ X K H0 → KC K 0 0 → (kL K).stackTraces = false → (kC K).exceptionTable.toList = tableOf hh → RetQW X K H0 bytes z' r → Jj K (WdQ X H0) z 0 (entL vs maxL) []) : ConQW X l y (WSW y bytes maxL ret hh) rm vs z z' r := by
  intro sz
  refine vx_ofWH (cc := bytes) (maxL := maxL) (ret := ret) (hh := hh) hy rfl ?_
  intro p e s m args below meth c s₁ B hml hv
  obtain ⟨rfl, hsz, ⟨hz, hP⟩, hKs, hH, hX, hb1, hb2, hb3⟩ := hv
  have hts := atoms_spec (ws := WSW y bytes maxL ret hh) B.pre
  have hown : s.vm.findClass y.cls = some m.cls := findClass_of_methodNamed B.named
  have htab : c.exceptionTable.toList = tableOf hh := vx_table (x := y) B (hts _ List.mem_cons_self)
  subst hsz
  rw [lg_entry_eq]
  obtain ⟨e1, e2⟩ := ent_has hl hml hcv
  refine h (p, l, e, (headSpec (WSW y bytes maxL ret hh) rm).room, s, m, vs.toArray, below, meth, c, 0, 0, _) s.heap ⟨B.exec, B.bytes, hown, fun w hw => hts w (List.mem_cons_of_mem _ hw), B.notSynchronized, rfl⟩ ⟨hKs, hA, hH, rfl, hX, hb1, hb2, hb3⟩ ⟨rfl, rfl⟩ hst htab ?_ s.heap [] _ ⟨hz, hP, va_S.rf⟩ e1 e2
  intro pc L r' hr32 hr d H locs ls hW hl hc
  subst hr
  have hr9 := B.returns
  rw [hret] at hr9
  have hlocks := B.notSynchronized
  exact vx_ret (W.iret (v := ii r') B.exec B.bytes hr9 (fun t ht hWm => ⟨⟨ii r', (), rfl, ii_toInt hr32, hW.1, by rw [ht]; exact hW.2.1⟩, hW.2.2.F ht⟩) hW.2.2.2.2 d)
end JQ

