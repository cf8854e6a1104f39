/-! THE ABSTRACT MACHINE: ints are Int in range, the world is a function, a judgement Jj over it -/
def R32 (x : Int) : Prop := -2147483648 ≤ x ∧ x < 2147483648
def ii (x : Int) : Int32 := Int32.ofInt x
def wr (x : Int) : Int := (ii x).toInt
theorem ii_toInt {x : Int} (h : R32 x) : (ii x).toInt = x := Int32.toInt_ofInt_of_le (by have := h.1; omega) (by have := h.2; omega)
theorem toInt_ii (x : Int32) : ii x.toInt = x := Int32.ofInt_toInt x
theorem R_toInt (x : Int32) : R32 x.toInt := ⟨by have := Int32.le_toInt x; omega, by have := Int32.toInt_lt x; omega⟩
theorem wr_of {x : Int} (h : R32 x) : wr x = x := ii_toInt h
theorem R_wr (x : Int) : R32 (wr x) := R_toInt _
theorem ii_wr (x : Int) : ii (wr x) = ii x := toInt_ii _
theorem ii_inj {a b : Int} (ha : R32 a) (hb : R32 b) : ii a = ii b ↔ a = b := by
  constructor
  · intro h
    have h1 := congrArg Int32.toInt h
    rwa [ii_toInt ha, ii_toInt hb] at h1
  · intro h; rw [h]
theorem ii_lt {a b : Int} (ha : R32 a) (hb : R32 b) : ii a < ii b ↔ a < b := by rw [Int32.lt_iff_toInt_lt, ii_toInt ha, ii_toInt hb]
theorem ii_le {a b : Int} (ha : R32 a) (hb : R32 b) : ii a ≤ ii b ↔ a ≤ b := by rw [Int32.le_iff_toInt_le, ii_toInt ha, ii_toInt hb]
def iand (a b : Int) : Int := (ii a &&& ii b).toInt
def ior (a b : Int) : Int := (ii a ||| ii b).toInt
def ixor (a b : Int) : Int := (ii a ^^^ ii b).toInt
def ishl (a b : Int) : Int := (ii a <<< (ii b &&& 31)).toInt
def ishr (a b : Int) : Int := (ii a >>> (ii b &&& 31)).toInt
def iushr (a b : Int) : Int := ((ii a).toUInt32 >>> ((ii b).toUInt32 &&& Int32.toUInt32 31)).toInt32.toInt
def idiv (a b : Int) : Int := (ii a / ii b).toInt
def irem (a b : Int) : Int := (ii a - ii a / ii b * ii b).toInt
def imin (a b : Int) : Int := if a ≤ b then a else b
def imax (a b : Int) : Int := if b ≤ a then a else b
theorem R_iand (a b : Int) : R32 (iand a b) := R_toInt _
theorem R_ior (a b : Int) : R32 (ior a b) := R_toInt _
theorem R_ixor (a b : Int) : R32 (ixor a b) := R_toInt _
theorem R_ishl (a b : Int) : R32 (ishl a b) := R_toInt _
theorem R_ishr (a b : Int) : R32 (ishr a b) := R_toInt _
theorem R_iushr (a b : Int) : R32 (iushr a b) := R_toInt _
theorem R_idiv (a b : Int) : R32 (idiv a b) := R_toInt _
theorem R_irem (a b : Int) : R32 (irem a b) := R_toInt _
theorem R_imin {a b : Int} (ha : R32 a) (hb : R32 b) : R32 (imin a b) := by unfold imin; split <;> assumption
theorem R_imax {a b : Int} (ha : R32 a) (hb : R32 b) : R32 (imax a b) := by unfold imax; split <;> assumption
theorem ii_add (a b : Int) : ii a + ii b = ii (wr (a + b)) := by rw [ii_wr]; exact (Int32.ofInt_add a b).symm
theorem ii_sub (a b : Int) : ii a - ii b = ii (wr (a - b)) := by rw [ii_wr]; exact (Int32.ofInt_sub a b).symm
theorem ii_mul (a b : Int) : ii a * ii b = ii (wr (a * b)) := by rw [ii_wr]; exact (Int32.ofInt_mul a b).symm
theorem ii_neg (a : Int) : -ii a = ii (wr (-a)) := by rw [ii_wr]; exact (Int32.ofInt_neg a).symm
def bnd {α β : Type} (x : Option α) (f : α → Option β) : Option β := x.bind f
def gd {β : Type} (c : Prop) [Decidable c] (x : Option β) : Option β := if c then x else none
theorem bnd_some {α β : Type} {x : Option α} {f : α → Option β} {o : β} (h : bnd x f = some o) : ∃ v, x = some v ∧ f v = some o := Option.bind_eq_some_iff.mp h
theorem gd_some {β : Type} {c : Prop} [Decidable c] {x : Option β} {o : β} (h : gd c x = some o) : c ∧ x = some o := by
  unfold gd at h
  split at h
  · exact ⟨by assumption, h⟩
  · cases h
theorem ite_t {β : Type} {c : Prop} [Decidable c] {x y : Option β} {o : β} (hc : c) (h : (if c then x else y) = some o) : x = some o := by rwa [if_pos hc] at h
theorem ite_f {β : Type} {c : Prop} [Decidable c] {x y : Option β} {o : β} (hc : ¬ c) (h : (if c then x else y) = some o) : y = some o := by rwa [if_neg hc] at h
def bl {α β : Type} (x : α) (f : α → Option β) : Option β := f x
theorem bl_out {α β : Type} {x : α} {f : α → Option β} {o : β} (h : bl x f = some o) : f x = some o := h
theorem some_inj {β : Type} {a b : β} (h : some a = some b) : b = a := (Option.some.inj h).symm
/-- loops: a step goes on (inl) or comes out (inr) -/
def itn {S R : Type} (F : S → Option (S ⊕ R)) : Nat → S → Option R
  | 0, _ => none
  | n + 1, s => match F s with
    | none => none
    | some (.inl s') => itn F n s'
    | some (.inr r) => some r
theorem itn_mono {S R : Type} {F : S → Option (S ⊕ R)} : ∀ {n : Nat} {s : S} {r : R}, itn F n s = some r → itn F (n + 1) s = some r := by
  intro n
  induction n with
  | zero => intro s r h; cases h
  | succ n ih =>
    intro s r h
    unfold itn at h ⊢
    cases hF : F s with
    | none => rw [hF] at h; cases h
    | some o =>
      rw [hF] at h
      cases o with
      | inl s' => exact ih h
      | inr r' => exact h
theorem itn_le {S R : Type} {F : S → Option (S ⊕ R)} {n k : Nat} {s : S} {r : R} (h : itn F n s = some r) (hk : n ≤ k) : itn F k s = some r := by
  induction hk with
  | refl => exact h
  | step _ ih => exact itn_mono ih
noncomputable def lp {S R : Type} (F : S → Option (S ⊕ R)) (s : S) : Option R := by
  classical exact if h : ∃ r, ∃ n, itn F n s = some r then some h.choose else none
theorem lp_iff {S R : Type} {F : S → Option (S ⊕ R)} {s : S} {r : R} : lp F s = some r ↔ ∃ n, itn F n s = some r := by
  unfold lp
  constructor
  · intro h
    split at h
    · next hx => cases h; exact hx.choose_spec
    · cases h
  · intro h
    have hx : ∃ r, ∃ n, itn F n s = some r := ⟨r, h⟩
    rw [dif_pos hx]
    obtain ⟨n, h1⟩ := h
    obtain ⟨k, h2⟩ := hx.choose_spec
    have h3 := itn_le h1 (Nat.le_max_left n k)
    have h4 := itn_le h2 (Nat.le_max_right n k)
    rw [h3] at h4
    exact h4.symm
theorem lp_ind {S R : Type} {F : S → Option (S ⊕ R)} (P : S → Prop) {s0 : S} {r : R} (h : lp F s0 = some r)
    (hs : ∀ s o, F s = some o → (∀ s', o = .inl s' → P s') → (∀ r', o = .inr r' → r' = r) → P s) : P s0 := by
  obtain ⟨n, hn⟩ := lp_iff.mp h
  clear h
  induction n generalizing s0 with
  | zero => cases hn
  | succ n ih =>
    unfold itn at hn
    cases hF : F s0 with
    | none => rw [hF] at hn; cases hn
    | some o =>
      rw [hF] at hn
      refine hs s0 o hF (fun s' e => ?_) (fun r' e => ?_)
      · subst e; exact ih hn
      · subst e; exact Option.some.inj hn
theorem lp_unfold {S R : Type} (F : S → Option (S ⊕ R)) (s : S) : lp F s = bnd (F s) (fun o => match o with | .inl s' => lp F s' | .inr r => some r) := by
  apply Option.ext
  intro r
  rw [lp_iff]
  unfold bnd
  cases hF : F s with
  | none =>
    constructor
    · rintro ⟨n, h⟩
      cases n with
      | zero => cases h
      | succ n => unfold itn at h; rw [hF] at h; cases h
    · intro h; cases h
  | some o =>
    cases o with
    | inl s' =>
      show _ ↔ lp F s' = some r
      rw [lp_iff]
      constructor
      · rintro ⟨n, h⟩
        cases n with
        | zero => cases h
        | succ n => unfold itn at h; rw [hF] at h; exact ⟨n, h⟩
      · rintro ⟨n, h⟩
        exact ⟨n + 1, by unfold itn; rw [hF]; exact h⟩
    | inr r' =>
      show _ ↔ some r' = some r
      constructor
      · rintro ⟨n, h⟩
        cases n with
        | zero => cases h
        | succ n => unfold itn at h; rw [hF] at h; exact h
      · intro h
        exact ⟨1, by unfold itn; rw [hF]; exact h⟩
/-- locals by their places; none: not known -/
def hasL (c : Code) (ls : Array Slot) (L : List (Option Value)) : Prop := ls.size = c.maxLocals ∧ L.length = c.maxLocals ∧ lv_wf ls ∧ ∀ (i : Nat) (v : Value), L[i]? = some (some v) → ls[i]? = some (.val v)
def ascL (L : List (Option Value)) : List (Nat × Value) := (List.range L.length).filterMap (fun i => (L[i]?).bind (fun o => o.map (fun v => (i, v))))
theorem mem_ascL {L : List (Option Value)} {q : Nat × Value} : q ∈ ascL L ↔ L[q.1]? = some (some q.2) := by
  unfold ascL
  rw [List.mem_filterMap]
  constructor
  · rintro ⟨i, -, h⟩
    cases h1 : L[i]? with
    | none => rw [h1] at h; cases h
    | some o =>
      rw [h1] at h
      cases o with
      | none => cases h
      | some v => cases h; exact h1
  · intro h
    refine ⟨q.1, List.mem_range.mpr (List.getElem?_eq_some_iff.mp h).1, ?_⟩
    rw [h]
    rfl
theorem hasL.has {c : Code} {ls : Array Slot} {L : List (Option Value)} (h : hasL c ls L) : lv_has ls c.maxLocals (ascL L) := ⟨h.1, h.2.2.1, fun q hq => h.2.2.2 _ _ (mem_ascL.mp hq)⟩
theorem hasL.of {c : Code} {ls : Array Slot} {L : List (Option Value)} {l : List (Nat × Value)} (h : lv_has ls c.maxLocals l) (hn : L.length = c.maxLocals) (hl : ∀ i v, L[i]? = some (some v) → (i, v) ∈ l) : hasL c ls L := ⟨h.1, hn, h.2.1, fun i v hv => h.2.2 (i, v) (hl i v hv)⟩
theorem hasL.put {c : Code} {ls : Array Slot} {L : List (Option Value)} {i : Nat} {v : Value} (h : hasL c ls L) {ls' : Array Slot} (h1 : ∀ q ∈ ascL L, q.2.category = 1) (h' : lv_has ls' c.maxLocals ((i, v) :: (ascL L).filter (fun q => !(q.1 == i) && !(q.1 + 1 == i && q.2.category == 2)))) : hasL c ls' (L.set i (some v)) := by
  refine hasL.of h' (by rw [List.length_set]; exact h.2.1) (fun j w hj => ?_)
  by_cases e : j = i
  · subst e
    have hl : j < L.length := by
      have := (List.getElem?_eq_some_iff.mp hj).1
      rwa [List.length_set] at this
    rw [List.getElem?_set_self hl] at hj
    cases hj
    exact List.mem_cons_self
  · rw [List.getElem?_set_ne (Ne.symm e)] at hj
    have hm : (j, w) ∈ ascL L := mem_ascL.mpr hj
    refine List.mem_cons_of_mem _ (List.mem_filter.mpr ⟨hm, ?_⟩)
    have h2 := h1 _ hm
    simp [e, h2]
/-- all words of the tables that stay true -/
def GW : List Cond := lw_tbl.filter goodWord
theorem inGW {w : Cond} (h : w ∈ lw_tbl) (g : goodWord w = true) : w ∈ GW := List.mem_filter.mpr ⟨h, g⟩
def WS (y : MethodName) (b : ByteArray) (n : Nat) (r : Option FieldType) : List Cond := .code y b n r :: GW
theorem GW_good : ∀ w ∈ GW, goodWord w = true := fun _ h => (List.mem_filter.mp h).2
theorem goodIn_WS {y : MethodName} {b : ByteArray} {n : Nat} {r : Option FieldType} (h : Cond.code y b n r ∈ GW) : GoodIn GW (WS y b n r) := fun w hw => by
  have hm : w ∈ GW := by
    rcases List.mem_cons.mp hw with e | e
    · rw [e]; exact h
    · exact e
  exact ⟨hm, good_of_word (GW_good w hm)⟩
abbrev KT : Type := Program × Launch × Env × Room × State × MethodId × Array Value × List Frame × Method × Code × Nat × Nat × (State → Prop)
def Jj {ω : Type} (K : KT) (Wd : ω → Heap → List Loc → Prop) (w : ω) (pc : Nat) (L : List (Option Value)) (st : List Value) : Prop :=
  match K with
  | (p, l, e, R, s, m, args, below, meth, c, cells, slots, Q) => ∀ (H : Heap) (locs : List Loc) (ls : Array Slot), Wd w H locs → hasL c ls L → (∀ q ∈ ascL L, q.2.category = 1) → W p l e R s m args below meth c H locs cells slots Q (F0 m pc ls st)
def Ok (K : KT) (cc : ByteArray) (own : String) (rm : Room) : Prop :=
  match K with
  | (p, _, _, R, s, m, args, _, meth, c, _, _, _) => p.tables.exec = Jvm.exec ∧ c.code = cc ∧ s.vm.findClass own = some m.cls ∧ (∀ w ∈ GW, w.before args s = true) ∧ meth.locks = false ∧ R = rm
section JR
variable {ω : Type} {K : KT} {Wd : ω → Heap → List Loc → Prop} {w : ω} {pc : Nat} {L : List (Option Value)} {st : List Value} {cc : ByteArray} {own : String} {rm : Room}
theorem J_iconst {n : Int} (o : Ok K cc own rm) (d : decode cc pc = .ok (.iconst n, 1)) (k : Jj K Wd w (pc + 1) L (.int (ii n) :: st)) : Jj K Wd w pc L st := by
  obtain ⟨p, l, e, R, s, m, args, below, meth, c, cells, slots, Q⟩ := K
  intro H locs ls hW hl hc
  exact lv_iconst o.1 o.2.1 d rfl (k H locs ls hW hl hc)
theorem J_bipush {n : Int} (o : Ok K cc own rm) (d : decode cc pc = .ok (.bipush n, 2)) (hn : (Int8.ofInt n).toInt32 = ii n) (k : Jj K Wd w (pc + 2) L (.int (ii n) :: st)) : Jj K Wd w pc L st := by
  obtain ⟨p, l, e, R, s, m, args, below, meth, c, cells, slots, Q⟩ := K
  intro H locs ls hW hl hc
  exact lv_bipush o.1 o.2.1 d hn (k H locs ls hW hl hc)
theorem J_sipush {n : Int} (o : Ok K cc own rm) (d : decode cc pc = .ok (.sipush n, 3)) (hn : (Int16.ofInt n).toInt32 = ii n) (k : Jj K Wd w (pc + 3) L (.int (ii n) :: st)) : Jj K Wd w pc L st := by
  obtain ⟨p, l, e, R, s, m, args, below, meth, c, cells, slots, Q⟩ := K
  intro H locs ls hW hl hc
  exact lv_sipush o.1 o.2.1 d hn (k H locs ls hW hl hc)
theorem J_ldc {n : Int} {idx : Nat} (o : Ok K cc own rm) (d : decode cc pc = .ok (.ldc idx, 2)) (hn : Cond.constant own idx (ii n) ∈ GW) (k : Jj K Wd w (pc + 2) L (.int (ii n) :: st)) : Jj K Wd w pc L st := by
  obtain ⟨p, l, e, R, s, m, args, below, meth, c, cells, slots, Q⟩ := K
  intro H locs ls hW hl hc
  exact lv_ldc o.1 o.2.1 o.2.2.1 (o.2.2.2.1 _ hn) d (k H locs ls hW hl hc)
theorem J_ldcw {n : Int} {idx : Nat} (o : Ok K cc own rm) (d : decode cc pc = .ok (.ldc_w idx, 3)) (hn : Cond.constant own idx (ii n) ∈ GW) (k : Jj K Wd w (pc + 3) L (.int (ii n) :: st)) : Jj K Wd w pc L st := by
  obtain ⟨p, l, e, R, s, m, args, below, meth, c, cells, slots, Q⟩ := K
  intro H locs ls hW hl hc
  exact lv_ldcw o.1 o.2.1 o.2.2.1 (o.2.2.2.1 _ hn) d (k H locs ls hW hl hc)
theorem J_iload {i : Nat} {x : Int32} (o : Ok K cc own rm) (d : decode cc pc = .ok (.iload i, 2)) (hv : L[i]? = some (some (.int x))) (k : Jj K Wd w (pc + 2) L (.int x :: st)) : Jj K Wd w pc L st := by
  obtain ⟨p, l, e, R, s, m, args, below, meth, c, cells, slots, Q⟩ := K
  intro H locs ls hW hl hc
  exact lv_iload o.1 o.2.1 d (hl.2.2.2 _ _ hv) (k H locs ls hW hl hc)
theorem J_iload_n {i : Fin 4} {x : Int32} (o : Ok K cc own rm) (d : decode cc pc = .ok (.iload_n i, 1)) (hv : L[(i : Nat)]? = some (some (.int x))) (k : Jj K Wd w (pc + 1) L (.int x :: st)) : Jj K Wd w pc L st := by
  obtain ⟨p, l, e, R, s, m, args, below, meth, c, cells, slots, Q⟩ := K
  intro H locs ls hW hl hc
  exact lv_iload_n o.1 o.2.1 d rfl (hl.2.2.2 _ _ hv) (k H locs ls hW hl hc)
/-- a reference: null, or a cell's address -/
def rf (ad : Nat → Nat) (c : Nat) : Value := if c = 0 then .null else .ref (ad c)
theorem rf_0 {ad : Nat → Nat} : rf ad 0 = .null := rfl
theorem rf_p {ad : Nat → Nat} {c : Nat} (h : c ≠ 0) : rf ad c = .ref (ad c) := if_neg h
theorem rf_cat {ad : Nat → Nat} {c : Nat} : (rf ad c).category = 1 := by unfold rf; split <;> rfl
theorem J_aload {i : Nat} {ad : Nat → Nat} {x : Nat} (o : Ok K cc own rm) (d : decode cc pc = .ok (.aload i, 2)) (hv : L[i]? = some (some (rf ad x))) (k : Jj K Wd w (pc + 2) L (rf ad x :: st)) : Jj K Wd w pc L st := by
  obtain ⟨p, l, e, R, s, m, args, below, meth, c, cells, slots, Q⟩ := K
  intro H locs ls hW hl hc
  have h1 := hl.2.2.2 _ _ hv
  have h2 := k H locs ls hW hl hc
  by_cases hx : x = 0
  · subst hx; exact lv_aloadN o.1 o.2.1 d h1 h2
  · rw [rf_p hx] at h1 h2; exact lv_aload o.1 o.2.1 d h1 h2
theorem J_aload_n {i : Fin 4} {ad : Nat → Nat} {x : Nat} (o : Ok K cc own rm) (d : decode cc pc = .ok (.aload_n i, 1)) (hv : L[(i : Nat)]? = some (some (rf ad x))) (k : Jj K Wd w (pc + 1) L (rf ad x :: st)) : Jj K Wd w pc L st := by
  obtain ⟨p, l, e, R, s, m, args, below, meth, c, cells, slots, Q⟩ := K
  intro H locs ls hW hl hc
  have h1 := hl.2.2.2 _ _ hv
  have h2 := k H locs ls hW hl hc
  by_cases hx : x = 0
  · subst hx; exact lv_aload_nN o.1 o.2.1 d rfl h1 h2
  · rw [rf_p hx] at h1 h2; exact lv_aload_n o.1 o.2.1 d rfl h1 h2
theorem asc_set {L : List (Option Value)} {i : Nat} {v : Value} (hv : v.category = 1) (h : ∀ q ∈ ascL L, q.2.category = 1) : ∀ q ∈ ascL (L.set i (some v)), q.2.category = 1 := by
  intro q hq
  have h1 := mem_ascL.mp hq
  by_cases e : q.1 = i
  · have hl : i < L.length := by
      have := (List.getElem?_eq_some_iff.mp h1).1
      rw [List.length_set] at this
      rwa [← e]
    rw [e, List.getElem?_set_self hl] at h1
    cases h1
    exact hv
  · rw [List.getElem?_set_ne (Ne.symm e)] at h1
    exact h _ (mem_ascL.mpr h1)
theorem J_istore {i : Nat} {x : Int32} (o : Ok K cc own rm) (d : decode cc pc = .ok (.istore i, 2)) (hi : i < L.length) (k : Jj K Wd w (pc + 2) (L.set i (some (.int x))) st) : Jj K Wd w pc L (.int x :: st) := by
  obtain ⟨p, l, e, R, s, m, args, below, meth, c, cells, slots, Q⟩ := K
  intro H locs ls hW hl hc
  exact lv_istore o.1 o.2.1 d hl.has (by rw [← hl.2.1]; exact hi) rfl (fun ls' h' => k H locs ls' hW (hl.put hc h') (asc_set rfl hc))
theorem J_istore_n {i : Fin 4} {x : Int32} (o : Ok K cc own rm) (d : decode cc pc = .ok (.istore_n i, 1)) (hi : (i : Nat) < L.length) (k : Jj K Wd w (pc + 1) (L.set (i : Nat) (some (.int x))) st) : Jj K Wd w pc L (.int x :: st) := by
  obtain ⟨p, l, e, R, s, m, args, below, meth, c, cells, slots, Q⟩ := K
  intro H locs ls hW hl hc
  exact lv_istore_n o.1 o.2.1 d rfl hl.has (by rw [← hl.2.1]; exact hi) rfl (fun ls' h' => k H locs ls' hW (hl.put hc h') (asc_set rfl hc))
theorem J_astore {i : Nat} {ad : Nat → Nat} {x : Nat} (o : Ok K cc own rm) (d : decode cc pc = .ok (.astore i, 2)) (hi : i < L.length) (k : Jj K Wd w (pc + 2) (L.set i (some (rf ad x))) st) : Jj K Wd w pc L (rf ad x :: st) := by
  obtain ⟨p, l, e, R, s, m, args, below, meth, c, cells, slots, Q⟩ := K
  intro H locs ls hW hl hc
  have h2 := fun ls' h' => k H locs ls' hW h' (asc_set rf_cat hc)
  by_cases hx : x = 0
  · subst hx
    exact lv_astoreN o.1 o.2.1 d hl.has (by rw [← hl.2.1]; exact hi) rfl (fun ls' h' => h2 ls' (hl.put hc h'))
  · rw [rf_p hx] at h2 ⊢
    exact lv_astore o.1 o.2.1 d hl.has (by rw [← hl.2.1]; exact hi) rfl (fun ls' h' => h2 ls' (hl.put hc h'))
theorem J_astore_n {i : Fin 4} {ad : Nat → Nat} {x : Nat} (o : Ok K cc own rm) (d : decode cc pc = .ok (.astore_n i, 1)) (hi : (i : Nat) < L.length) (k : Jj K Wd w (pc + 1) (L.set (i : Nat) (some (rf ad x))) st) : Jj K Wd w pc L (rf ad x :: st) := by
  obtain ⟨p, l, e, R, s, m, args, below, meth, c, cells, slots, Q⟩ := K
  intro H locs ls hW hl hc
  have h2 := fun ls' h' => k H locs ls' hW h' (asc_set rf_cat hc)
  by_cases hx : x = 0
  · subst hx
    exact lv_astore_nN o.1 o.2.1 d rfl hl.has (by rw [← hl.2.1]; exact hi) rfl (fun ls' h' => h2 ls' (hl.put hc h'))
  · rw [rf_p hx] at h2 ⊢
    exact lv_astore_n o.1 o.2.1 d rfl hl.has (by rw [← hl.2.1]; exact hi) rfl (fun ls' h' => h2 ls' (hl.put hc h'))
theorem J_iinc {i : Nat} {n x : Int} (o : Ok K cc own rm) (d : decode cc pc = .ok (.iinc i n, 3)) (hv : L[i]? = some (some (.int (ii x)))) (k : Jj K Wd w (pc + 3) (L.set i (some (.int (ii (wr (x + n)))))) st) : Jj K Wd w pc L st := by
  obtain ⟨p, l, e, R, s, m, args, below, meth, c, cells, slots, Q⟩ := K
  intro H locs ls hW hl hc
  have hi : i < L.length := (List.getElem?_eq_some_iff.mp hv).1
  obtain ⟨q, hq⟩ := List.getElem?_of_mem ((mem_ascL (q := (i, Value.int (ii x)))).mpr hv)
  exact lv_iinc (k := q) (v := ii (wr (x + n))) o.1 o.2.1 d hl.has hq (ii_add x n) (by rw [← hl.2.1]; exact hi) rfl (fun ls' h' => k H locs ls' hW (hl.put hc h') (asc_set rfl hc))
theorem J_iadd {x y : Int} (o : Ok K cc own rm) (d : decode cc pc = .ok (.iadd, 1)) (k : Jj K Wd w (pc + 1) L (.int (ii (wr (x + y))) :: st)) : Jj K Wd w pc L (.int (ii y) :: .int (ii x) :: st) := by
  obtain ⟨p, l, e, R, s, m, args, below, meth, c, cells, slots, Q⟩ := K
  intro H locs ls hW hl hc
  exact lv_iadd o.1 o.2.1 d (by rw [ii_add]; exact k H locs ls hW hl hc)
theorem J_isub {x y : Int} (o : Ok K cc own rm) (d : decode cc pc = .ok (.isub, 1)) (k : Jj K Wd w (pc + 1) L (.int (ii (wr (x - y))) :: st)) : Jj K Wd w pc L (.int (ii y) :: .int (ii x) :: st) := by
  obtain ⟨p, l, e, R, s, m, args, below, meth, c, cells, slots, Q⟩ := K
  intro H locs ls hW hl hc
  exact lv_isub o.1 o.2.1 d (by rw [ii_sub]; exact k H locs ls hW hl hc)
theorem J_imul {x y : Int} (o : Ok K cc own rm) (d : decode cc pc = .ok (.imul, 1)) (k : Jj K Wd w (pc + 1) L (.int (ii (wr (x * y))) :: st)) : Jj K Wd w pc L (.int (ii y) :: .int (ii x) :: st) := by
  obtain ⟨p, l, e, R, s, m, args, below, meth, c, cells, slots, Q⟩ := K
  intro H locs ls hW hl hc
  exact lv_imul o.1 o.2.1 d (by rw [ii_mul]; exact k H locs ls hW hl hc)
theorem J_ineg {x : Int} (o : Ok K cc own rm) (d : decode cc pc = .ok (.ineg, 1)) (k : Jj K Wd w (pc + 1) L (.int (ii (wr (-x))) :: st)) : Jj K Wd w pc L (.int (ii x) :: st) := by
  obtain ⟨p, l, e, R, s, m, args, below, meth, c, cells, slots, Q⟩ := K
  intro H locs ls hW hl hc
  exact lv_ineg o.1 o.2.1 d (by rw [ii_neg]; exact k H locs ls hW hl hc)
theorem J_iand {x y : Int} (o : Ok K cc own rm) (d : decode cc pc = .ok (.iand, 1)) (k : Jj K Wd w (pc + 1) L (.int (ii (iand x y)) :: st)) : Jj K Wd w pc L (.int (ii y) :: .int (ii x) :: st) := by
  obtain ⟨p, l, e, R, s, m, args, below, meth, c, cells, slots, Q⟩ := K
  intro H locs ls hW hl hc
  exact lv_iand o.1 o.2.1 d (by rw [← toInt_ii (ii x &&& ii y)]; exact k H locs ls hW hl hc)
theorem J_ior {x y : Int} (o : Ok K cc own rm) (d : decode cc pc = .ok (.ior, 1)) (k : Jj K Wd w (pc + 1) L (.int (ii (ior x y)) :: st)) : Jj K Wd w pc L (.int (ii y) :: .int (ii x) :: st) := by
  obtain ⟨p, l, e, R, s, m, args, below, meth, c, cells, slots, Q⟩ := K
  intro H locs ls hW hl hc
  exact lv_ior o.1 o.2.1 d (by rw [← toInt_ii (ii x ||| ii y)]; exact k H locs ls hW hl hc)
theorem J_ixor {x y : Int} (o : Ok K cc own rm) (d : decode cc pc = .ok (.ixor, 1)) (k : Jj K Wd w (pc + 1) L (.int (ii (ixor x y)) :: st)) : Jj K Wd w pc L (.int (ii y) :: .int (ii x) :: st) := by
  obtain ⟨p, l, e, R, s, m, args, below, meth, c, cells, slots, Q⟩ := K
  intro H locs ls hW hl hc
  exact lv_ixor o.1 o.2.1 d (by rw [← toInt_ii (ii x ^^^ ii y)]; exact k H locs ls hW hl hc)
theorem J_ishl {x y : Int} (o : Ok K cc own rm) (d : decode cc pc = .ok (.ishl, 1)) (k : Jj K Wd w (pc + 1) L (.int (ii (ishl x y)) :: st)) : Jj K Wd w pc L (.int (ii y) :: .int (ii x) :: st) := by
  obtain ⟨p, l, e, R, s, m, args, below, meth, c, cells, slots, Q⟩ := K
  intro H locs ls hW hl hc
  exact lv_ishl o.1 o.2.1 d (by rw [← toInt_ii (ii x <<< (ii y &&& 31))]; exact k H locs ls hW hl hc)
theorem J_ishr {x y : Int} (o : Ok K cc own rm) (d : decode cc pc = .ok (.ishr, 1)) (k : Jj K Wd w (pc + 1) L (.int (ii (ishr x y)) :: st)) : Jj K Wd w pc L (.int (ii y) :: .int (ii x) :: st) := by
  obtain ⟨p, l, e, R, s, m, args, below, meth, c, cells, slots, Q⟩ := K
  intro H locs ls hW hl hc
  exact lv_ishr o.1 o.2.1 d (by rw [← toInt_ii (ii x >>> (ii y &&& 31))]; exact k H locs ls hW hl hc)
theorem J_iushr {x y : Int} (o : Ok K cc own rm) (d : decode cc pc = .ok (.iushr, 1)) (k : Jj K Wd w (pc + 1) L (.int (ii (iushr x y)) :: st)) : Jj K Wd w pc L (.int (ii y) :: .int (ii x) :: st) := by
  obtain ⟨p, l, e, R, s, m, args, below, meth, c, cells, slots, Q⟩ := K
  intro H locs ls hW hl hc
  exact lv_iushr o.1 o.2.1 d rfl (by rw [← toInt_ii ((ii x).toUInt32 >>> ((ii y).toUInt32 &&& Int32.toUInt32 31)).toInt32]; exact k H locs ls hW hl hc)
theorem J_idiv {x y : Int} (o : Ok K cc own rm) (d : decode cc pc = .ok (.idiv, 1)) (hy : R32 y) (h0 : y ≠ 0) (k : Jj K Wd w (pc + 1) L (.int (ii (idiv x y)) :: st)) : Jj K Wd w pc L (.int (ii y) :: .int (ii x) :: st) := by
  obtain ⟨p, l, e, R, s, m, args, below, meth, c, cells, slots, Q⟩ := K
  intro H locs ls hW hl hc
  exact lv_idiv o.1 o.2.1 d (fun h => h0 ((ii_inj hy (by decide : (-2147483648 : Int) ≤ 0 ∧ (0 : Int) < 2147483648)).mp h)) (by rw [← toInt_ii (ii x / ii y)]; exact k H locs ls hW hl hc)
theorem J_irem {x y : Int} (o : Ok K cc own rm) (d : decode cc pc = .ok (.irem, 1)) (hy : R32 y) (h0 : y ≠ 0) (k : Jj K Wd w (pc + 1) L (.int (ii (irem x y)) :: st)) : Jj K Wd w pc L (.int (ii y) :: .int (ii x) :: st) := by
  obtain ⟨p, l, e, R, s, m, args, below, meth, c, cells, slots, Q⟩ := K
  intro H locs ls hW hl hc
  exact lv_irem o.1 o.2.1 d (fun h => h0 ((ii_inj hy (by decide : (-2147483648 : Int) ≤ 0 ∧ (0 : Int) < 2147483648)).mp h)) (by rw [← toInt_ii (ii x - ii x / ii y * ii y)]; exact k H locs ls hW hl hc)
theorem J_dup {v : Value} (o : Ok K cc own rm) (d : decode cc pc = .ok (.dup, 1)) (hv : v.category = 1) (k : Jj K Wd w (pc + 1) L (v :: v :: st)) : Jj K Wd w pc L (v :: st) := by
  obtain ⟨p, l, e, R, s, m, args, below, meth, c, cells, slots, Q⟩ := K
  intro H locs ls hW hl hc
  exact lv_dup o.1 o.2.1 d hv (k H locs ls hW hl hc)
theorem J_dup2 {v u : Value} (o : Ok K cc own rm) (d : decode cc pc = .ok (.dup2, 1)) (hv : v.category = 1) (hu : u.category = 1) (k : Jj K Wd w (pc + 1) L (v :: u :: v :: u :: st)) : Jj K Wd w pc L (v :: u :: st) := by
  obtain ⟨p, l, e, R, s, m, args, below, meth, c, cells, slots, Q⟩ := K
  intro H locs ls hW hl hc
  exact lv_dup2_11 o.1 o.2.1 d hv hu (k H locs ls hW hl hc)
theorem J_dup_x1 {v u : Value} (o : Ok K cc own rm) (d : decode cc pc = .ok (.dup_x1, 1)) (hv : v.category = 1) (hu : u.category = 1) (k : Jj K Wd w (pc + 1) L (v :: u :: v :: st)) : Jj K Wd w pc L (v :: u :: st) := by
  obtain ⟨p, l, e, R, s, m, args, below, meth, c, cells, slots, Q⟩ := K
  intro H locs ls hW hl hc
  exact lv_dup_x1 o.1 o.2.1 d hv hu (k H locs ls hW hl hc)
theorem J_pop {v : Value} (o : Ok K cc own rm) (d : decode cc pc = .ok (.pop, 1)) (hv : v.category = 1) (k : Jj K Wd w (pc + 1) L st) : Jj K Wd w pc L (v :: st) := by
  obtain ⟨p, l, e, R, s, m, args, below, meth, c, cells, slots, Q⟩ := K
  intro H locs ls hW hl hc
  exact lv_pop o.1 o.2.1 d hv (k H locs ls hW hl hc)
theorem J_goto {off : Int} (tgt : Nat) (o : Ok K cc own rm) (d : decode cc pc = .ok (.goto off, 3)) (ht : (pc : Int) + off = (tgt : Int)) (k : Jj K Wd w tgt L st) : Jj K Wd w pc L st := by
  obtain ⟨p, l, e, R, s, m, args, below, meth, c, cells, slots, Q⟩ := K
  intro H locs ls hW hl hc
  exact lv_goto o.1 o.2.1 d ht (k H locs ls hW hl hc)
theorem J_ifnull {ad : Nat → Nat} {x : Nat} {off : Int} (tgt : Nat) (o : Ok K cc own rm) (d : decode cc pc = .ok (.ifnull off, 3)) (ht : (pc : Int) + off = (tgt : Int)) (kt : x = 0 → Jj K Wd w tgt L st) (kf : ¬ x = 0 → Jj K Wd w (pc + 3) L st) : Jj K Wd w pc L (rf ad x :: st) := by
  obtain ⟨p, l, e, R, s, m, args, below, meth, c, cells, slots, Q⟩ := K
  intro H locs ls hW hl hc
  by_cases hx : x = 0
  · have h2 := kt hx H locs ls hW hl hc
    subst hx; exact lv_ifnullN o.1 o.2.1 d ht h2
  · rw [rf_p hx]; exact lv_ifnull o.1 o.2.1 d (kf hx H locs ls hW hl hc)
theorem J_ifnonnull {ad : Nat → Nat} {x : Nat} {off : Int} (tgt : Nat) (o : Ok K cc own rm) (d : decode cc pc = .ok (.ifnonnull off, 3)) (ht : (pc : Int) + off = (tgt : Int)) (kt : ¬ x = 0 → Jj K Wd w tgt L st) (kf : x = 0 → Jj K Wd w (pc + 3) L st) : Jj K Wd w pc L (rf ad x :: st) := by
  obtain ⟨p, l, e, R, s, m, args, below, meth, c, cells, slots, Q⟩ := K
  intro H locs ls hW hl hc
  by_cases hx : x = 0
  · have h2 := kf hx H locs ls hW hl hc
    subst hx; exact lv_ifnonnullN o.1 o.2.1 d h2
  · rw [rf_p hx]; exact lv_ifnonnull o.1 o.2.1 d ht (kt hx H locs ls hW hl hc)
theorem J_icmp_eq {x y : Int} {off : Int} (tgt : Nat) (o : Ok K cc own rm) (d : decode cc pc = .ok (.if_icmp .eq off, 3)) (ht : (pc : Int) + off = (tgt : Int)) (hx : R32 x) (hy : R32 y) (kt : x = y → Jj K Wd w tgt L st) (kf : ¬ x = y → Jj K Wd w (pc + 3) L st) : Jj K Wd w pc L (.int (ii y) :: .int (ii x) :: st) := by
  obtain ⟨p, l, e, R, s, m, args, below, meth, c, cells, slots, Q⟩ := K
  intro H locs ls hW hl hc
  exact lv_icmp_eq o.1 o.2.1 d ht (fun h => kt ((ii_inj hx hy).mp h) H locs ls hW hl hc) (fun h => kf (fun q => h ((ii_inj hx hy).mpr q)) H locs ls hW hl hc)
theorem J_if_eq {x : Int} {off : Int} (tgt : Nat) (o : Ok K cc own rm) (d : decode cc pc = .ok (.ifCond .eq off, 3)) (ht : (pc : Int) + off = (tgt : Int)) (hx : R32 x) (kt : x = 0 → Jj K Wd w tgt L st) (kf : ¬ x = 0 → Jj K Wd w (pc + 3) L st) : Jj K Wd w pc L (.int (ii x) :: st) := by
  obtain ⟨p, l, e, R, s, m, args, below, meth, c, cells, slots, Q⟩ := K
  intro H locs ls hW hl hc
  have hy : R32 0 := ⟨by decide, by decide⟩
  exact lv_if_eq o.1 o.2.1 d ht (fun h => kt ((ii_inj hx hy).mp h) H locs ls hW hl hc) (fun h => kf (fun q => h ((ii_inj hx hy).mpr q)) H locs ls hW hl hc)
theorem J_icmp_ne {x y : Int} {off : Int} (tgt : Nat) (o : Ok K cc own rm) (d : decode cc pc = .ok (.if_icmp .ne off, 3)) (ht : (pc : Int) + off = (tgt : Int)) (hx : R32 x) (hy : R32 y) (kt : x ≠ y → Jj K Wd w tgt L st) (kf : x = y → Jj K Wd w (pc + 3) L st) : Jj K Wd w pc L (.int (ii y) :: .int (ii x) :: st) := by
  obtain ⟨p, l, e, R, s, m, args, below, meth, c, cells, slots, Q⟩ := K
  intro H locs ls hW hl hc
  exact lv_icmp_ne o.1 o.2.1 d ht (fun h => kt ((not_congr (ii_inj hx hy)).mp h) H locs ls hW hl hc) (fun h => kf ((ii_inj hx hy).mp h) H locs ls hW hl hc)
theorem J_if_ne {x : Int} {off : Int} (tgt : Nat) (o : Ok K cc own rm) (d : decode cc pc = .ok (.ifCond .ne off, 3)) (ht : (pc : Int) + off = (tgt : Int)) (hx : R32 x) (kt : x ≠ 0 → Jj K Wd w tgt L st) (kf : x = 0 → Jj K Wd w (pc + 3) L st) : Jj K Wd w pc L (.int (ii x) :: st) := by
  obtain ⟨p, l, e, R, s, m, args, below, meth, c, cells, slots, Q⟩ := K
  intro H locs ls hW hl hc
  have hy : R32 0 := ⟨by decide, by decide⟩
  exact lv_if_ne o.1 o.2.1 d ht (fun h => kt ((not_congr (ii_inj hx hy)).mp h) H locs ls hW hl hc) (fun h => kf ((ii_inj hx hy).mp h) H locs ls hW hl hc)
theorem J_icmp_lt {x y : Int} {off : Int} (tgt : Nat) (o : Ok K cc own rm) (d : decode cc pc = .ok (.if_icmp .lt off, 3)) (ht : (pc : Int) + off = (tgt : Int)) (hx : R32 x) (hy : R32 y) (kt : x < y → Jj K Wd w tgt L st) (kf : ¬ x < y → Jj K Wd w (pc + 3) L st) : Jj K Wd w pc L (.int (ii y) :: .int (ii x) :: st) := by
  obtain ⟨p, l, e, R, s, m, args, below, meth, c, cells, slots, Q⟩ := K
  intro H locs ls hW hl hc
  exact lv_icmp_lt o.1 o.2.1 d ht (fun h => kt ((ii_lt hx hy).mp h) H locs ls hW hl hc) (fun h => kf (fun q => h ((ii_lt hx hy).mpr q)) H locs ls hW hl hc)
theorem J_if_lt {x : Int} {off : Int} (tgt : Nat) (o : Ok K cc own rm) (d : decode cc pc = .ok (.ifCond .lt off, 3)) (ht : (pc : Int) + off = (tgt : Int)) (hx : R32 x) (kt : x < 0 → Jj K Wd w tgt L st) (kf : ¬ x < 0 → Jj K Wd w (pc + 3) L st) : Jj K Wd w pc L (.int (ii x) :: st) := by
  obtain ⟨p, l, e, R, s, m, args, below, meth, c, cells, slots, Q⟩ := K
  intro H locs ls hW hl hc
  have hy : R32 0 := ⟨by decide, by decide⟩
  exact lv_if_lt o.1 o.2.1 d ht (fun h => kt ((ii_lt hx hy).mp h) H locs ls hW hl hc) (fun h => kf (fun q => h ((ii_lt hx hy).mpr q)) H locs ls hW hl hc)
theorem J_icmp_ge {x y : Int} {off : Int} (tgt : Nat) (o : Ok K cc own rm) (d : decode cc pc = .ok (.if_icmp .ge off, 3)) (ht : (pc : Int) + off = (tgt : Int)) (hx : R32 x) (hy : R32 y) (kt : x ≥ y → Jj K Wd w tgt L st) (kf : ¬ x ≥ y → Jj K Wd w (pc + 3) L st) : Jj K Wd w pc L (.int (ii y) :: .int (ii x) :: st) := by
  obtain ⟨p, l, e, R, s, m, args, below, meth, c, cells, slots, Q⟩ := K
  intro H locs ls hW hl hc
  exact lv_icmp_ge o.1 o.2.1 d ht (fun h => kt ((ii_le hy hx).mp h) H locs ls hW hl hc) (fun h => kf (fun q => h ((ii_le hy hx).mpr q)) H locs ls hW hl hc)
theorem J_if_ge {x : Int} {off : Int} (tgt : Nat) (o : Ok K cc own rm) (d : decode cc pc = .ok (.ifCond .ge off, 3)) (ht : (pc : Int) + off = (tgt : Int)) (hx : R32 x) (kt : x ≥ 0 → Jj K Wd w tgt L st) (kf : ¬ x ≥ 0 → Jj K Wd w (pc + 3) L st) : Jj K Wd w pc L (.int (ii x) :: st) := by
  obtain ⟨p, l, e, R, s, m, args, below, meth, c, cells, slots, Q⟩ := K
  intro H locs ls hW hl hc
  have hy : R32 0 := ⟨by decide, by decide⟩
  exact lv_if_ge o.1 o.2.1 d ht (fun h => kt ((ii_le hy hx).mp h) H locs ls hW hl hc) (fun h => kf (fun q => h ((ii_le hy hx).mpr q)) H locs ls hW hl hc)
theorem J_icmp_gt {x y : Int} {off : Int} (tgt : Nat) (o : Ok K cc own rm) (d : decode cc pc = .ok (.if_icmp .gt off, 3)) (ht : (pc : Int) + off = (tgt : Int)) (hx : R32 x) (hy : R32 y) (kt : x > y → Jj K Wd w tgt L st) (kf : ¬ x > y → Jj K Wd w (pc + 3) L st) : Jj K Wd w pc L (.int (ii y) :: .int (ii x) :: st) := by
  obtain ⟨p, l, e, R, s, m, args, below, meth, c, cells, slots, Q⟩ := K
  intro H locs ls hW hl hc
  exact lv_icmp_gt o.1 o.2.1 d ht (fun h => kt ((ii_lt hy hx).mp h) H locs ls hW hl hc) (fun h => kf (fun q => h ((ii_lt hy hx).mpr q)) H locs ls hW hl hc)
theorem J_if_gt {x : Int} {off : Int} (tgt : Nat) (o : Ok K cc own rm) (d : decode cc pc = .ok (.ifCond .gt off, 3)) (ht : (pc : Int) + off = (tgt : Int)) (hx : R32 x) (kt : x > 0 → Jj K Wd w tgt L st) (kf : ¬ x > 0 → Jj K Wd w (pc + 3) L st) : Jj K Wd w pc L (.int (ii x) :: st) := by
  obtain ⟨p, l, e, R, s, m, args, below, meth, c, cells, slots, Q⟩ := K
  intro H locs ls hW hl hc
  have hy : R32 0 := ⟨by decide, by decide⟩
  exact lv_if_gt o.1 o.2.1 d ht (fun h => kt ((ii_lt hy hx).mp h) H locs ls hW hl hc) (fun h => kf (fun q => h ((ii_lt hy hx).mpr q)) H locs ls hW hl hc)
theorem J_icmp_le {x y : Int} {off : Int} (tgt : Nat) (o : Ok K cc own rm) (d : decode cc pc = .ok (.if_icmp .le off, 3)) (ht : (pc : Int) + off = (tgt : Int)) (hx : R32 x) (hy : R32 y) (kt : x ≤ y → Jj K Wd w tgt L st) (kf : ¬ x ≤ y → Jj K Wd w (pc + 3) L st) : Jj K Wd w pc L (.int (ii y) :: .int (ii x) :: st) := by
  obtain ⟨p, l, e, R, s, m, args, below, meth, c, cells, slots, Q⟩ := K
  intro H locs ls hW hl hc
  exact lv_icmp_le o.1 o.2.1 d ht (fun h => kt ((ii_le hx hy).mp h) H locs ls hW hl hc) (fun h => kf (fun q => h ((ii_le hx hy).mpr q)) H locs ls hW hl hc)
theorem J_if_le {x : Int} {off : Int} (tgt : Nat) (o : Ok K cc own rm) (d : decode cc pc = .ok (.ifCond .le off, 3)) (ht : (pc : Int) + off = (tgt : Int)) (hx : R32 x) (kt : x ≤ 0 → Jj K Wd w tgt L st) (kf : ¬ x ≤ 0 → Jj K Wd w (pc + 3) L st) : Jj K Wd w pc L (.int (ii x) :: st) := by
  obtain ⟨p, l, e, R, s, m, args, below, meth, c, cells, slots, Q⟩ := K
  intro H locs ls hW hl hc
  have hy : R32 0 := ⟨by decide, by decide⟩
  exact lv_if_le o.1 o.2.1 d ht (fun h => kt ((ii_le hx hy).mp h) H locs ls hW hl hc) (fun h => kf (fun q => h ((ii_le hx hy).mpr q)) H locs ls hW hl hc)
end JR
