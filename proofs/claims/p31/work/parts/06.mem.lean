/-! THE WORLD: cells by number, each a row of Int; the tables of a system; reading, writing, calling -/
abbrev World : Type := Nat → Nat → Int
def up (w : World) (c k : Nat) (v : Int) : World := fun c' k' => if c' = c ∧ k' = k then v else w c' k'
abbrev TT : Type := (Nat → Nat) × (Nat → Nat) × List vw_C × (Nat → Nat → Bool) × (Nat → Nat → Option (Bool × Nat)) × String × String × Nat
abbrev TT.kd (T : TT) : Nat → Nat := T.1
abbrev TT.ln (T : TT) : Nat → Nat := T.2.1
abbrev TT.cl (T : TT) : List vw_C := T.2.2.1
abbrev TT.isref (T : TT) : Nat → Nat → Bool := T.2.2.2.1
abbrev TT.fx (T : TT) : Nat → Nat → Option (Bool × Nat) := T.2.2.2.2.1
abbrev TT.r0 (T : TT) : String := T.2.2.2.2.2.1
abbrev TT.r1 (T : TT) : String := T.2.2.2.2.2.2.1
abbrev TT.nn (T : TT) : Nat := T.2.2.2.2.2.2.2
def fxv (c : Nat) (q : Bool × Nat) : Nat := if q.1 then q.2 else c + q.2
abbrev EE : Type := va_G × ClassId × ClassId × ClassId × ClassId × (Nat → Nat)
abbrev EE.D (E : EE) : va_G := E.1
abbrev EE.cI (E : EE) : ClassId := E.2.1
abbrev EE.cZ (E : EE) : ClassId := E.2.2.1
abbrev EE.c0 (E : EE) : ClassId := E.2.2.2.1
abbrev EE.c1 (E : EE) : ClassId := E.2.2.2.2.1
abbrev EE.ad (E : EE) : Nat → Nat := E.2.2.2.2.2
def tysE (T : TT) (E : EE) : List (ClassId × FieldType) := [(E.cI, .int), (E.cZ, .boolean), (E.c0, .object T.r0), (E.c1, .object T.r1)]
def nfT (T : TT) (κ : Nat) : Nat := match T.cl[κ - 1]? with
  | some q => q.2.2
  | none => 0
def rq (ad : Nat → Nat) (c : Nat) : Option Nat := if c = 0 then none else some (ad c)
theorem va_rf_rq {ad : Nat → Nat} {c : Nat} : va_rf (rq ad c) = rf ad c := by unfold rq rf; split <;> rfl
def fval (T : TT) (E : EE) (κ : Nat) (w : World) (c j : Nat) : Value := if T.isref κ j = true then rf E.ad (w c j).toNat else .int (ii (w c j))
def cel (T : TT) (E : EE) (w : World) (c : Nat) : va_E :=
  if T.kd c = 40 then .inl (E.cI, T.ln c, .inl (fun j => ii (w c j)))
  else if T.kd c = 41 then .inl (E.cZ, T.ln c, .inl (fun j => ii (w c j)))
  else if T.kd c = 42 then .inl (E.c0, T.ln c, .inr (.inr (.inr (.inr (fun j => rq E.ad (w c j).toNat)))))
  else if T.kd c = 43 then .inl (E.c1, T.ln c, .inr (.inr (.inr (.inr (fun j => rq E.ad (w c j).toNat)))))
  else .inr (T.kd c - 1, (List.range (nfT T (T.kd c))).map (fval T E (T.kd c) w c))
def wsl (T : TT) (E : EE) (w : World) : va_W := (List.range T.nn).map (fun i => (E.ad (i + 1), cel T E w (i + 1)))
def AA (T : TT) (E : EE) (sz : Nat) : Nat → Prop := fun q => (∃ c : Nat, c ≠ 0 ∧ c ≤ T.nn ∧ q = E.ad c) ∨ sz ≤ q
def Fx (T : TT) (w : World) : Prop := ∀ (c k : Nat) (q : Bool × Nat), c ≠ 0 → c ≤ T.nn → T.fx (T.kd c) k = some q → w c k = (fxv c q : Int)
def RW (w : World) : Prop := ∀ c k : Nat, R32 (w c k)
def Tn (T : TT) : Prop := ∀ c : Nat, T.kd c ≠ 0 → c ≠ 0 ∧ c ≤ T.nn
def Inj (T : TT) (E : EE) : Prop := ∀ c c' : Nat, c ≠ 0 → c ≤ T.nn → c' ≠ 0 → c' ≤ T.nn → E.ad c = E.ad c' → c = c'
def WdT (T : TT) (E : EE) (H0 : Heap) : World → Heap → List Loc → Prop := fun w H locs => RW w ∧ Fx T w ∧ va_P E.D T.cl (wsl T E w) H ∧ va_S (AA T E H0.size) H0 H locs
def kS (K : KT) : State := K.2.2.2.2.1
def kL (K : KT) : Launch := K.2.1
/-- the nest mates' links, at a state -/
def NWs (U : State) : Prop := (∀ (a : String) (i : Nat) (b n d h : String), Cond.fieldLinkNest a i b n d h ∈ lw_tbl → va_Nw (.fieldLinkNest a i b n d h) U) ∧ (∀ (a : String) (i : Nat) (x : MethodName) (h : String), Cond.methodLinkNest a i x h ∈ lw_tbl → va_Nw (.methodLinkNest a i x h) U) ∧ ∀ C : String, Cond.arrayOver (.object C) ∈ lw_tbl → va_AO C U
theorem NWs.warm {s U : State} (hW : s.WarmedH U.vm) (h : NWs s) : NWs U := ⟨fun a i b n d o hm => va_Nw.warmF hW (h.1 a i b n d o hm), fun a i x o hm => va_Nw.warmM hW (h.2.1 a i x o hm), fun C hm => va_AO.moved hW.alike (h.2.2 C hm)⟩
theorem NWs.same {s U : State} (hv : s.vm = U.vm) (h : NWs s) : NWs U := ⟨fun a i b n d o hm => va_Nw.same rfl hv (h.1 a i b n d o hm), fun a i x o hm => va_Nw.same rfl hv (h.2.1 a i x o hm), fun C hm => va_AO.moved (by rw [hv]; exact Vm.Alike.refl _) (h.2.2 C hm)⟩
def Gd (T : TT) (E : EE) (K : KT) : Prop := va_K E.D T.cl (tysE T E) (kS K) ∧ Inj T E ∧ Tn T ∧ NWs (kS K)
theorem wsl_get {T : TT} {E : EE} {w : World} {c : Nat} (h0 : c ≠ 0) (h1 : c ≤ T.nn) : (wsl T E w)[c - 1]? = some (E.ad c, cel T E w c) := by
  unfold wsl
  rw [List.getElem?_map, List.getElem?_range (by omega)]
  show some (E.ad (c - 1 + 1), cel T E w (c - 1 + 1)) = _
  rw [show c - 1 + 1 = c by omega]
theorem wsl_spec {T : TT} {E : EE} {w : World} {i : Nat} {q : Nat × va_E} (h : (wsl T E w)[i]? = some q) : i < T.nn ∧ q = (E.ad (i + 1), cel T E w (i + 1)) := by
  unfold wsl at h
  rw [List.getElem?_map] at h
  have hl : i < T.nn := by
    by_cases hi : i < T.nn
    · exact hi
    · rw [List.getElem?_eq_none (by rw [List.length_range]; omega)] at h
      cases h
  rw [List.getElem?_range hl] at h
  exact ⟨hl, (Option.some.inj h).symm⟩
theorem cel_congr {T : TT} {E : EE} {w w' : World} {c : Nat} (h : ∀ j, w c j = w' c j) : cel T E w c = cel T E w' c := by
  have e : w c = w' c := funext h
  have e2 : fval T E (T.kd c) w c = fval T E (T.kd c) w' c := by
    funext j
    unfold fval
    rw [e]
  unfold cel
  rw [e, e2]
theorem up_ne {w : World} {c k c' k' : Nat} {v : Int} (h : c' ≠ c) : up w c k v c' k' = w c' k' := if_neg (fun q => h q.1)
theorem up_eq {w : World} {c k : Nat} {v : Int} : up w c k v c k = v := if_pos ⟨rfl, rfl⟩
theorem up_nk {w : World} {c k c' k' : Nat} {v : Int} (h : k' ≠ k) : up w c k v c' k' = w c' k' := if_neg (fun q => h q.2)
theorem wsl_up {T : TT} {E : EE} {w : World} {c k : Nat} {v : Int} (h0 : c ≠ 0) (h1 : c ≤ T.nn) : (wsl T E w).set (c - 1) (E.ad c, cel T E (up w c k v) c) = wsl T E (up w c k v) := by
  apply List.ext_getElem?
  intro i
  have hlen : (wsl T E w).length = T.nn := by unfold wsl; rw [List.length_map, List.length_range]
  by_cases e : i = c - 1
  · subst e
    rw [List.getElem?_set_self (by rw [hlen]; omega), wsl_get h0 h1]
  · rw [List.getElem?_set_ne (Ne.symm e)]
    by_cases hi : i < T.nn
    · have g := wsl_get (T := T) (E := E) (w := w) (c := i + 1) (by omega) (by omega)
      have g' := wsl_get (T := T) (E := E) (w := up w c k v) (c := i + 1) (by omega) (by omega)
      rw [Nat.add_sub_cancel] at g g'
      rw [g, g', cel_congr (w := up w c k v) (w' := w) (fun j => up_ne (by omega))]
    · have hlen' : (wsl T E (up w c k v)).length = T.nn := by unfold wsl; rw [List.length_map, List.length_range]
      rw [List.getElem?_eq_none (by omega), List.getElem?_eq_none (by omega)]
theorem wsl_D {T : TT} {E : EE} {w : World} {sz : Nat} (hi : Inj T E) : va_D (AA T E sz) (wsl T E w) := by
  refine ⟨fun i j p q hp hq hpq => ?_, fun k q hk => ?_⟩
  · obtain ⟨h1, rfl⟩ := wsl_spec hp
    obtain ⟨h2, rfl⟩ := wsl_spec hq
    have := hi (i + 1) (j + 1) (by omega) (by omega) (by omega) (by omega) hpq
    omega
  · obtain ⟨h1, rfl⟩ := wsl_spec hk
    exact Or.inl ⟨k + 1, by omega, by omega, rfl⟩
theorem cel_obj {T : TT} {E : EE} {w : World} {c κ : Nat} (hk : T.kd c = κ) (h : κ < 40) : cel T E w c = .inr (κ - 1, (List.range (nfT T κ)).map (fval T E κ w c)) := by
  unfold cel
  rw [hk, if_neg (by omega), if_neg (by omega), if_neg (by omega), if_neg (by omega)]
theorem cel_I {T : TT} {E : EE} {w : World} {c : Nat} (hk : T.kd c = 40) : cel T E w c = .inl (E.cI, T.ln c, .inl (fun j => ii (w c j))) := by
  unfold cel; rw [if_pos hk]
theorem cel_Z {T : TT} {E : EE} {w : World} {c : Nat} (hk : T.kd c = 41) : cel T E w c = .inl (E.cZ, T.ln c, .inl (fun j => ii (w c j))) := by
  unfold cel; rw [if_neg (by omega), if_pos hk]
theorem cel_0 {T : TT} {E : EE} {w : World} {c : Nat} (hk : T.kd c = 42) : cel T E w c = .inl (E.c0, T.ln c, .inr (.inr (.inr (.inr (fun j => rq E.ad (w c j).toNat))))) := by
  unfold cel; rw [if_neg (by omega), if_neg (by omega), if_pos hk]
theorem cel_1 {T : TT} {E : EE} {w : World} {c : Nat} (hk : T.kd c = 43) : cel T E w c = .inl (E.c1, T.ln c, .inr (.inr (.inr (.inr (fun j => rq E.ad (w c j).toNat))))) := by
  unfold cel; rw [if_neg (by omega), if_neg (by omega), if_neg (by omega), if_pos hk]
/-- a field of the tables, as an instruction of 'own' names it -/
def FL (own : String) (idx : Nat) (T : TT) (κ j : Nat) : Prop := ∃ (C : String) (F : u_T) (N : Nat), T.cl[κ - 1]? = some (C, F, N) ∧ (0 < κ ∧ κ < 40 ∧ j < N) ∧ (∀ w ∈ u_ws C F N, w ∈ GW) ∧
  (Cond.fieldLink own idx (F j).1 (F j).2.1 (F j).2.2.1 ∈ GW ∨ ∃ host, Cond.fieldLinkNest own idx (F j).1 (F j).2.1 (F j).2.2.1 host ∈ lw_tbl)
def FP (own : String) (idx : Nat) (T : TT) (κ j : Nat) (ty : FieldType) : Prop := ∃ (C : String) (F : u_T) (N : Nat), T.cl[κ - 1]? = some (C, F, N) ∧ (0 < κ ∧ κ < 40 ∧ j < N) ∧ (∀ w ∈ u_ws C F N, w ∈ GW) ∧
  (Cond.fieldLink own idx (F j).1 (F j).2.1 (F j).2.2.1 ∈ GW ∨ ∃ host, Cond.fieldLinkNest own idx (F j).1 (F j).2.1 (F j).2.2.1 host ∈ lw_tbl) ∧
  (∃ ty0 : Nat → FieldType, (∀ k, k < N → parseFieldDescriptor (F k).2.2.1 = some (ty0 k)) ∧ ty0 j = ty) ∧ (∀ a, a < N → ∀ b, b < N → a ≠ b → (F a).2.1 ≠ (F b).2.1) ∧ (F j).2.2.2 = false
theorem nfT_eq {T : TT} {κ : Nat} {C : String} {F : u_T} {N : Nat} (h : T.cl[κ - 1]? = some (C, F, N)) : nfT T κ = N := by unfold nfT; rw [h]
section JM
variable {T : TT} {E : EE} {K : KT} {w : World} {H0 : Heap} {pc idx : Nat} {L : List (Option Value)} {st : List Value} {cc : ByteArray} {own : String} {rm : Room} {c j κ : Nat}
theorem J_getV (o : Ok K cc own rm) (g : Gd T E K) (d : decode cc pc = .ok (.getfield idx, 3)) (fl : FL own idx T κ j) (hk : T.kd c = κ) (k : Jj K (WdT T E H0) w (pc + 3) L (fval T E κ w c j :: st)) : Jj K (WdT T E H0) w pc L (rf E.ad c :: st) := by
  obtain ⟨p, l, e, R, s, m, args, below, meth, cd, cells, slots, Q⟩ := K
  intro H locs ls hW hl hc
  have h2 := k H locs ls hW hl hc
  obtain ⟨hR, hF, hP, hS⟩ := hW
  obtain ⟨gK, gI, gT, gN⟩ := g
  obtain ⟨C, F, N, hcl, ⟨k0, k1, k2⟩, hin, hlk⟩ := fl
  obtain ⟨c0, c1⟩ := gT c (by omega)
  rw [rf_p c0]
  have he := wsl_get (E := E) (w := w) c0 c1
  rw [cel_obj hk k1, nfT_eq hcl] at he
  have hv : ((List.range N).map (fval T E κ w c))[j]? = some (fval T E κ w c j) := by rw [List.getElem?_map, List.getElem?_range k2]; rfl
  rcases hlk with h | ⟨host, h⟩
  · exact va_get (D := E.D) (ci := κ - 1) (C := C) (T := F) (N := N) o.1 o.2.1 o.2.2.2.1 hin o.2.2.1 gK hP (c - 1) he hcl j k2 (o.2.2.2.1 _ h) (fun _ h9 => h9) hv d h2
  · exact va_getN (D := E.D) (ci := κ - 1) (C := C) (T := F) (N := N) o.1 o.2.1 o.2.2.2.1 hin o.2.2.1 gK hP (c - 1) he hcl j k2 (va_Nw.use rfl (gN.1 _ _ _ _ _ _ h)) (fun _ h9 => h9) hv d h2
theorem J_RW (h : RW w → Jj K (WdT T E H0) w pc L st) : Jj K (WdT T E H0) w pc L st := by
  obtain ⟨p, l, e, R, s, m, args, below, meth, cd, cells, slots, Q⟩ := K
  intro H locs ls hW hl hc
  exact h hW.1 H locs ls hW hl hc
theorem J_Fx (h : Fx T w → Jj K (WdT T E H0) w pc L st) : Jj K (WdT T E H0) w pc L st := by
  obtain ⟨p, l, e, R, s, m, args, below, meth, cd, cells, slots, Q⟩ := K
  intro H locs ls hW hl hc
  exact h hW.2.1 H locs ls hW hl hc
theorem J_getI (o : Ok K cc own rm) (g : Gd T E K) (d : decode cc pc = .ok (.getfield idx, 3)) (fl : FL own idx T κ j) (hk : T.kd c = κ) (hr : T.isref κ j = false) (k : R32 (w c j) → Jj K (WdT T E H0) w (pc + 3) L (.int (ii (w c j)) :: st)) : Jj K (WdT T E H0) w pc L (rf E.ad c :: st) := by
  refine J_RW fun hR => J_getV o g d fl hk ?_
  have e : fval T E κ w c j = .int (ii (w c j)) := by unfold fval; rw [if_neg (by rw [hr]; decide)]
  rw [e]
  exact k (hR c j)
theorem J_getR (o : Ok K cc own rm) (g : Gd T E K) (d : decode cc pc = .ok (.getfield idx, 3)) (fl : FL own idx T κ j) (hk : T.kd c = κ) (hr : T.isref κ j = true) (k : Jj K (WdT T E H0) w (pc + 3) L (rf E.ad (w c j).toNat :: st)) : Jj K (WdT T E H0) w pc L (rf E.ad c :: st) := by
  refine J_getV o g d fl hk ?_
  have e : fval T E κ w c j = rf E.ad (w c j).toNat := by unfold fval; rw [if_pos hr]
  rw [e]
  exact k
theorem J_getF {f : Nat} (q : Bool × Nat) (o : Ok K cc own rm) (g : Gd T E K) (d : decode cc pc = .ok (.getfield idx, 3)) (fl : FL own idx T κ j) (hk : T.kd c = κ) (hr : T.isref κ j = true) (hq : T.fx κ j = some q) (hf : fxv c q = f) (k : Jj K (WdT T E H0) w (pc + 3) L (rf E.ad f :: st)) : Jj K (WdT T E H0) w pc L (rf E.ad c :: st) := by
  refine J_Fx fun hF => J_getR o g d fl hk hr ?_
  have hc : c ≠ 0 ∧ c ≤ T.nn := by
    obtain ⟨C, F, N, hcl, ⟨k0, k1, k2⟩, -⟩ := fl
    exact g.2.2.1 c (by omega)
  have h1 := hF c j q hc.1 hc.2 (by rw [hk]; exact hq)
  rw [h1, hf]
  exact k
theorem vp_in_ii {i : Int} {n : Nat} (hi : R32 i) (h : 0 ≤ i ∧ i < (n : Int)) : vp_in (ii i) n := by
  intro q
  rcases q with q | q
  · have h0 : ii i < ii 0 := q
    rw [ii_lt hi ⟨by decide, by decide⟩] at h0
    omega
  · have h1 : (ii i).toNatClampNeg = i.toNat := by show (ii i).toInt.toNat = _; rw [ii_toInt hi]
    rw [h1] at q
    omega
theorem ii_clamp {i : Int} (hi : R32 i) : (ii i).toNatClampNeg = i.toNat := by show (ii i).toInt.toNat = _; rw [ii_toInt hi]
theorem J_iald {a : Nat} {i z : Int} (o : Ok K cc own rm) (g : Gd T E K) (d : decode cc pc = .ok (.iaload, 1)) (hk : T.kd a = 40) (hi : R32 i) (hz : ((T.ln a : Nat) : Int) = z) (hb : 0 ≤ i ∧ i < z) (k : R32 (w a i.toNat) → Jj K (WdT T E H0) w (pc + 1) L (.int (ii (w a i.toNat)) :: st)) : Jj K (WdT T E H0) w pc L (.int (ii i) :: rf E.ad a :: st) := by
  refine J_RW fun hR => ?_
  have k := k (hR a i.toNat)
  obtain ⟨p, l, e, R, s, m, args, below, meth, cd, cells, slots, Q⟩ := K
  intro H locs ls hW hl hc
  have h2 := k H locs ls hW hl hc
  obtain ⟨-, hF, hP, hS⟩ := hW
  obtain ⟨gK, gI, gT, gN⟩ := g
  obtain ⟨c0, c1⟩ := gT a (by omega)
  have he := wsl_get (E := E) (w := w) c0 c1
  rw [cel_I hk] at he
  rw [rf_p c0]
  refine va_iald (D := E.D) o.1 o.2.1 gK hP (a - 1) 0 he rfl (vp_in_ii hi (by rw [hz]; exact hb)) d ?_
  rw [ii_clamp hi]
  exact h2
theorem J_zald {a : Nat} {i z : Int} (o : Ok K cc own rm) (g : Gd T E K) (d : decode cc pc = .ok (.baload, 1)) (hk : T.kd a = 41) (hi : R32 i) (hz : ((T.ln a : Nat) : Int) = z) (hb : 0 ≤ i ∧ i < z) (k : R32 (w a i.toNat) → Jj K (WdT T E H0) w (pc + 1) L (.int (ii (w a i.toNat)) :: st)) : Jj K (WdT T E H0) w pc L (.int (ii i) :: rf E.ad a :: st) := by
  refine J_RW fun hR => ?_
  have k := k (hR a i.toNat)
  obtain ⟨p, l, e, R, s, m, args, below, meth, cd, cells, slots, Q⟩ := K
  intro H locs ls hW hl hc
  have h2 := k H locs ls hW hl hc
  obtain ⟨-, hF, hP, hS⟩ := hW
  obtain ⟨gK, gI, gT, gN⟩ := g
  obtain ⟨c0, c1⟩ := gT a (by omega)
  have he := wsl_get (E := E) (w := w) c0 c1
  rw [cel_Z hk] at he
  rw [rf_p c0]
  refine va_zald (D := E.D) o.1 o.2.1 gK hP (a - 1) 1 he rfl (vp_in_ii hi (by rw [hz]; exact hb)) d ?_
  rw [ii_clamp hi]
  exact h2
theorem J_aald {a : Nat} {i z : Int} (o : Ok K cc own rm) (g : Gd T E K) (d : decode cc pc = .ok (.aaload, 1)) (hk : T.kd a = 42 ∨ T.kd a = 43) (hi : R32 i) (hz : ((T.ln a : Nat) : Int) = z) (hb : 0 ≤ i ∧ i < z) (k : Jj K (WdT T E H0) w (pc + 1) L (rf E.ad (w a i.toNat).toNat :: st)) : Jj K (WdT T E H0) w pc L (.int (ii i) :: rf E.ad a :: st) := by
  obtain ⟨p, l, e, R, s, m, args, below, meth, cd, cells, slots, Q⟩ := K
  intro H locs ls hW hl hc
  have h2 := k H locs ls hW hl hc
  obtain ⟨-, hF, hP, hS⟩ := hW
  obtain ⟨gK, gI, gT, gN⟩ := g
  obtain ⟨c0, c1⟩ := gT a (by omega)
  have he := wsl_get (E := E) (w := w) c0 c1
  rw [rf_p c0]
  rcases hk with hk | hk
  · rw [cel_0 hk] at he
    refine va_aldq (D := E.D) o.1 o.2.1 gK hP (a - 1) 2 he rfl (vp_in_ii hi (by rw [hz]; exact hb)) d ?_
    rw [ii_clamp hi, va_rf_rq]
    exact h2
  · rw [cel_1 hk] at he
    refine va_aldq (D := E.D) o.1 o.2.1 gK hP (a - 1) 3 he rfl (vp_in_ii hi (by rw [hz]; exact hb)) d ?_
    rw [ii_clamp hi, va_rf_rq]
    exact h2
theorem J_alen {a κ2 : Nat} {z : Int} (o : Ok K cc own rm) (g : Gd T E K) (d : decode cc pc = .ok (.arraylength, 1)) (hk : T.kd a = κ2) (h4 : 40 ≤ κ2 ∧ κ2 ≤ 43) (hz : ((T.ln a : Nat) : Int) = z) (k : Jj K (WdT T E H0) w (pc + 1) L (.int (ii z) :: st)) : Jj K (WdT T E H0) w pc L (rf E.ad a :: st) := by
  obtain ⟨p, l, e, R, s, m, args, below, meth, cd, cells, slots, Q⟩ := K
  intro H locs ls hW hl hc
  have h2 := k H locs ls hW hl hc
  obtain ⟨-, hF, hP, hS⟩ := hW
  obtain ⟨gK, gI, gT, gN⟩ := g
  obtain ⟨c0, c1⟩ := gT a (by omega)
  have he := wsl_get (E := E) (w := w) c0 c1
  rw [rf_p c0]
  have hk4 : T.kd a = 40 ∨ T.kd a = 41 ∨ T.kd a = 42 ∨ T.kd a = 43 := by omega
  have hv : Int32.ofNat (T.ln a) = ii z := by rw [← hz]; exact (Int32.ofInt_eq_ofNat).symm
  rcases hk4 with hk | hk | hk | hk
  · rw [cel_I hk] at he
    exact va_alen (D := E.D) o.1 o.2.1 gK hP (a - 1) 0 he rfl hv d h2
  · rw [cel_Z hk] at he
    exact va_alen (D := E.D) o.1 o.2.1 gK hP (a - 1) 1 he rfl hv d h2
  · rw [cel_0 hk] at he
    exact va_alen (D := E.D) o.1 o.2.1 gK hP (a - 1) 2 he rfl hv d h2
  · rw [cel_1 hk] at he
    exact va_alen (D := E.D) o.1 o.2.1 gK hP (a - 1) 3 he rfl hv d h2
theorem RW_up {v : Int} (h : RW w) (hv : R32 v) : RW (up w c j v) := by
  intro c' k'
  unfold up
  split
  · exact hv
  · exact h c' k'
theorem Fx_up {v : Int} (h : Fx T w) (hf : T.fx (T.kd c) j = none) : Fx T (up w c j v) := by
  intro c' k' q h0 h1 hq
  by_cases e : c' = c ∧ k' = j
  · rw [e.1, e.2, hf] at hq; cases hq
  · rw [show up w c j v c' k' = w c' k' from if_neg e]
    exact h c' k' q h0 h1 hq
theorem fvals_up {E : EE} {N : Nat} {v : Int} (hj : j < N) : ((List.range N).map (fval T E κ w c)).set j (fval T E κ (up w c j v) c j) = (List.range N).map (fval T E κ (up w c j v) c) := by
  apply List.ext_getElem?
  intro i
  by_cases e : i = j
  · subst e
    rw [List.getElem?_set_self (by rw [List.length_map, List.length_range]; exact hj), List.getElem?_map, List.getElem?_range hj]
    rfl
  · rw [List.getElem?_set_ne (Ne.symm e), List.getElem?_map, List.getElem?_map]
    by_cases hi : i < N
    · rw [List.getElem?_range hi]
      show some (fval T E κ w c i) = some (fval T E κ (up w c j v) c i)
      unfold fval
      rw [up_nk e]
    · rw [List.getElem?_eq_none (by rw [List.length_range]; omega)]
      rfl
theorem J_putV {ty : FieldType} {v : Int} {V : Value} (o : Ok K cc own rm) (g : Gd T E K) (d : decode cc pc = .ok (.putfield idx, 3)) (fl : FP own idx T κ j ty) (hk : T.kd c = κ) (hfx : T.fx κ j = none) (hv : R32 v) (hV : fval T E κ (up w c j v) c j = V) (hn : narrow ty V = V) (hfit : fits ty V = true) (k : Jj K (WdT T E H0) (up w c j v) (pc + 3) L st) : Jj K (WdT T E H0) w pc L (V :: rf E.ad c :: st) := by
  obtain ⟨p, l, e, R, s, m, args, below, meth, cd, cells, slots, Q⟩ := K
  intro H locs ls hW hl hc
  obtain ⟨hR, hF, hP, hS⟩ := hW
  obtain ⟨gK, gI, gT, gN⟩ := g
  obtain ⟨C, F, N, hcl, ⟨k0, k1, k2⟩, hin, hlk, ⟨ty0, hty, htj⟩, hnm, hfin⟩ := fl
  obtain ⟨c0, c1⟩ := gT c (by omega)
  rw [rf_p c0]
  have he := wsl_get (E := E) (w := w) c0 c1
  rw [cel_obj hk k1, nfT_eq hcl] at he
  have hset : (wsl T E w).set (c - 1) (E.ad c, .inr (κ - 1, ((List.range N).map (fval T E κ w c)).set j V)) = wsl T E (up w c j v) := by
    rw [← wsl_up c0 c1, cel_obj hk k1, nfT_eq hcl, ← hV, fvals_up k2]
  have hlen : j < ((List.range N).map (fval T E κ w c)).length := by rw [List.length_map, List.length_range]; exact k2
  have kk : ∀ (H1 : Heap) (locs1 : List Loc), va_P E.D T.cl ((wsl T E w).set (c - 1) (E.ad c, .inr (κ - 1, ((List.range N).map (fval T E κ w c)).set j V))) H1 → va_D (AA T E H0.size) ((wsl T E w).set (c - 1) (E.ad c, .inr (κ - 1, ((List.range N).map (fval T E κ w c)).set j V))) → va_S (AA T E H0.size) H0 H1 locs1 → W p l e R s m args below meth cd H1 locs1 cells slots Q (F0 m (pc + 3) ls st) := by
    intro H1 locs1 hP1 _ hS1
    rw [hset] at hP1
    exact k H1 locs1 ls ⟨RW_up hR hv, Fx_up hF (by rw [hk]; exact hfx), hP1, hS1⟩ hl hc
  rcases hlk with h | ⟨host, h⟩
  · exact va_put (D := E.D) (ci := κ - 1) (C := C) (T := F) (N := N) (ty := ty) o.1 o.2.1 o.2.2.2.1 hin ty0 hty hnm o.2.2.1 gK hP (wsl_D gI) hS (c - 1) he hcl j k2 (o.2.2.2.1 _ h) (fun _ h9 => h9) hfin (by rw [hty j k2, htj]) hn hfit hlen d kk
  · exact va_putN (D := E.D) (ci := κ - 1) (C := C) (T := F) (N := N) (ty := ty) o.1 o.2.1 o.2.2.2.1 hin ty0 hty hnm o.2.2.1 gK hP (wsl_D gI) hS (c - 1) he hcl j k2 (va_Nw.use rfl (gN.1 _ _ _ _ _ _ h)) (fun _ h9 => h9) hfin (by rw [hty j k2, htj]) hn hfit hlen d kk
theorem J_putI {v : Int} (o : Ok K cc own rm) (g : Gd T E K) (d : decode cc pc = .ok (.putfield idx, 3)) (fl : FP own idx T κ j .int) (hk : T.kd c = κ) (hr : T.isref κ j = false) (hfx : T.fx κ j = none) (hv : R32 v) (k : Jj K (WdT T E H0) (up w c j v) (pc + 3) L st) : Jj K (WdT T E H0) w pc L (.int (ii v) :: rf E.ad c :: st) := by
  refine J_putV (v := v) o g d fl hk hfx hv ?_ rfl rfl k
  unfold fval
  rw [if_neg (by rw [hr]; decide), up_eq]
def isb (x : Int) : Prop := x = 0 ∨ x = 1
theorem J_putZ {v : Int} (o : Ok K cc own rm) (g : Gd T E K) (d : decode cc pc = .ok (.putfield idx, 3)) (fl : FP own idx T κ j .boolean) (hk : T.kd c = κ) (hr : T.isref κ j = false) (hfx : T.fx κ j = none) (hv : v = 0 ∨ v = 1) (k : Jj K (WdT T E H0) (up w c j v) (pc + 3) L st) : Jj K (WdT T E H0) w pc L (.int (ii v) :: rf E.ad c :: st) := by
  refine J_putV (v := v) o g d fl hk hfx (by unfold R32; omega) ?_ ?_ ?_ k
  · unfold fval
    rw [if_neg (by rw [hr]; decide), up_eq]
  · rcases hv with rfl | rfl <;> decide
  · rcases hv with rfl | rfl <;> decide
theorem J_putR {v : Nat} {Cn : String} (o : Ok K cc own rm) (g : Gd T E K) (d : decode cc pc = .ok (.putfield idx, 3)) (fl : FP own idx T κ j (.object Cn)) (hk : T.kd c = κ) (hr : T.isref κ j = true) (hfx : T.fx κ j = none) (hv : v < 1000) (k : Jj K (WdT T E H0) (up w c j (v : Int)) (pc + 3) L st) : Jj K (WdT T E H0) w pc L (rf E.ad v :: rf E.ad c :: st) := by
  refine J_putV (v := (v : Int)) o g d fl hk hfx (by unfold R32; omega) ?_ ?_ ?_ k
  · unfold fval
    rw [if_pos hr, up_eq]
    rfl
  · unfold rf; split <;> rfl
  · unfold rf; split <;> rfl
theorem J_iast {a : Nat} {i v z : Int} (o : Ok K cc own rm) (g : Gd T E K) (d : decode cc pc = .ok (.iastore, 1)) (hk : T.kd a = 40) (hfx : T.fx 40 i.toNat = none) (hi : R32 i) (hz : ((T.ln a : Nat) : Int) = z) (hb : 0 ≤ i ∧ i < z) (hv : R32 v) (k : Jj K (WdT T E H0) (up w a i.toNat v) (pc + 1) L st) : Jj K (WdT T E H0) w pc L (.int (ii v) :: .int (ii i) :: rf E.ad a :: st) := by
  obtain ⟨p, l, e, R, s, m, args, below, meth, cd, cells, slots, Q⟩ := K
  intro H locs ls hW hl hc
  obtain ⟨hR, hF, hP, hS⟩ := hW
  obtain ⟨gK, gI, gT, gN⟩ := g
  obtain ⟨c0, c1⟩ := gT a (by omega)
  have he := wsl_get (E := E) (w := w) c0 c1
  rw [cel_I hk] at he
  rw [rf_p c0]
  refine va_iast (D := E.D) (A := AA T E H0.size) o.1 o.2.1 gK hP (wsl_D gI) hS (a - 1) 0 he rfl (vp_in_ii hi (by rw [hz]; exact hb)) d (fun H1 locs1 hP1 _ hS1 => ?_)
  have hset : (wsl T E w).set (a - 1) (E.ad a, .inl (E.cI, T.ln a, .inl (va_up (fun j => ii (w a j)) (ii i).toNatClampNeg (ii v)))) = wsl T E (up w a i.toNat v) := by
    rw [← wsl_up c0 c1, cel_I hk, ii_clamp hi]
    have e2 : va_up (fun j => ii (w a j)) i.toNat (ii v) = fun j => ii (up w a i.toNat v a j) := by
      funext j
      unfold va_up up
      by_cases hj : j = i.toNat
      · rw [if_pos hj, if_pos ⟨rfl, hj⟩]
      · rw [if_neg hj, if_neg (fun q => hj q.2)]
    rw [e2]
  have hP1' : va_P E.D T.cl (wsl T E (up w a i.toNat v)) H1 := by rw [← hset]; exact hP1
  exact k H1 locs1 ls ⟨RW_up hR hv, Fx_up hF (by rw [hk]; exact hfx), hP1', hS1⟩ hl hc
theorem J_zast {a : Nat} {i v z : Int} (o : Ok K cc own rm) (g : Gd T E K) (d : decode cc pc = .ok (.bastore, 1)) (hk : T.kd a = 41) (hfx : T.fx 41 i.toNat = none) (hi : R32 i) (hz : ((T.ln a : Nat) : Int) = z) (hb : 0 ≤ i ∧ i < z) (hv : v = 0 ∨ v = 1) (k : Jj K (WdT T E H0) (up w a i.toNat v) (pc + 1) L st) : Jj K (WdT T E H0) w pc L (.int (ii v) :: .int (ii i) :: rf E.ad a :: st) := by
  obtain ⟨p, l, e, R, s, m, args, below, meth, cd, cells, slots, Q⟩ := K
  intro H locs ls hW hl hc
  obtain ⟨hR, hF, hP, hS⟩ := hW
  obtain ⟨gK, gI, gT, gN⟩ := g
  obtain ⟨c0, c1⟩ := gT a (by omega)
  have he := wsl_get (E := E) (w := w) c0 c1
  rw [cel_Z hk] at he
  rw [rf_p c0]
  refine va_zast (D := E.D) (A := AA T E H0.size) o.1 o.2.1 gK hP (wsl_D gI) hS (a - 1) 1 he rfl (vp_in_ii hi (by rw [hz]; exact hb)) d (fun H1 locs1 hP1 _ hS1 => ?_)
  have hnar : vp_nar .boolean (ii v) = ii v := by rcases hv with rfl | rfl <;> decide
  have hset : (wsl T E w).set (a - 1) (E.ad a, .inl (E.cZ, T.ln a, .inl (upd (fun j => ii (w a j)) (ii i).toNatClampNeg (vp_nar .boolean (ii v))))) = wsl T E (up w a i.toNat v) := by
    rw [← wsl_up c0 c1, cel_Z hk, ii_clamp hi, hnar]
    have e2 : upd (fun j => ii (w a j)) i.toNat (ii v) = fun j => ii (up w a i.toNat v a j) := by
      funext j
      unfold upd up
      by_cases hj : j = i.toNat
      · rw [if_pos hj, if_pos ⟨rfl, hj⟩]
      · rw [if_neg hj, if_neg (fun q => hj q.2)]
    rw [e2]
  have hP1' : va_P E.D T.cl (wsl T E (up w a i.toNat v)) H1 := by rw [← hset]; exact hP1
  exact k H1 locs1 ls ⟨RW_up hR (by unfold R32; omega), Fx_up hF (by rw [hk]; exact hfx), hP1', hS1⟩ hl hc
theorem aset_up {f : Nat → Option Nat} {ad : Nat → Nat} {a i : Nat} {v : Nat} (hf : f = fun j => rq ad (w a j).toNat) (hv : v ≠ 0) : va_up f i (some (ad v)) = fun j => rq ad (up w a i (v : Int) a j).toNat := by
  funext j
  unfold va_up up
  by_cases hj : j = i
  · rw [if_pos hj, if_pos ⟨rfl, hj⟩]
    show _ = rq ad v
    unfold rq
    rw [if_neg hv]
  · rw [if_neg hj, if_neg (fun q => hj q.2), hf]
theorem J_aast0 {a v : Nat} {i z : Int} (o : Ok K cc own rm) (g : Gd T E K) (d : decode cc pc = .ok (.aastore, 1)) (hk : T.kd a = 42) (hfx : T.fx 42 i.toNat = none) (hi : R32 i) (hz : ((T.ln a : Nat) : Int) = z) (hb : 0 ≤ i ∧ i < z) (hkv : T.kd v = κ) (hcn : (T.cl[κ - 1]?).map (fun q => q.1) = some T.r0) (hκ : 0 < κ ∧ κ < 40) (hv : v < 1000) (k : Jj K (WdT T E H0) (up w a i.toNat (v : Int)) (pc + 1) L st) : Jj K (WdT T E H0) w pc L (rf E.ad v :: .int (ii i) :: rf E.ad a :: st) := by
  obtain ⟨p, l, e, R, s, m, args, below, meth, cd, cells, slots, Q⟩ := K
  intro H locs ls hW hl hc
  obtain ⟨hR, hF, hP, hS⟩ := hW
  obtain ⟨gK, gI, gT, gN⟩ := g
  obtain ⟨c0, c1⟩ := gT a (by omega)
  obtain ⟨v0, v1⟩ := gT v (by omega)
  have he := wsl_get (E := E) (w := w) c0 c1
  rw [cel_0 hk] at he
  have hev := wsl_get (E := E) (w := w) v0 v1
  rw [cel_obj hkv hκ.2] at hev
  obtain ⟨q, hq, hq1⟩ := Option.map_eq_some_iff.mp hcn
  rw [rf_p c0, rf_p v0]
  refine va_astq (D := E.D) (A := AA T E H0.size) (r := q) o.1 o.2.1 gK hP (wsl_D gI) hS (a - 1) 2 (v - 1) (κ - 1) he (by rw [hq1]; rfl) hev hq (vp_in_ii hi (by rw [hz]; exact hb)) d (fun H1 locs1 hP1 _ hS1 => ?_)
  have hset : (wsl T E w).set (a - 1) (E.ad a, .inl (E.c0, T.ln a, .inr (.inr (.inr (.inr (va_up (fun j => rq E.ad (w a j).toNat) (ii i).toNatClampNeg (some (E.ad v)))))))) = wsl T E (up w a i.toNat (v : Int)) := by
    rw [← wsl_up c0 c1, cel_0 hk, ii_clamp hi, aset_up rfl v0]
  have hP1' : va_P E.D T.cl (wsl T E (up w a i.toNat (v : Int))) H1 := by rw [← hset]; exact hP1
  exact k H1 locs1 ls ⟨RW_up hR (by unfold R32; omega), Fx_up hF (by rw [hk]; exact hfx), hP1', hS1⟩ hl hc
theorem J_aast1 {a v : Nat} {i z : Int} (o : Ok K cc own rm) (g : Gd T E K) (d : decode cc pc = .ok (.aastore, 1)) (hk : T.kd a = 43) (hfx : T.fx 43 i.toNat = none) (hi : R32 i) (hz : ((T.ln a : Nat) : Int) = z) (hb : 0 ≤ i ∧ i < z) (hkv : T.kd v = κ) (hcn : (T.cl[κ - 1]?).map (fun q => q.1) = some T.r1) (hκ : 0 < κ ∧ κ < 40) (hv : v < 1000) (k : Jj K (WdT T E H0) (up w a i.toNat (v : Int)) (pc + 1) L st) : Jj K (WdT T E H0) w pc L (rf E.ad v :: .int (ii i) :: rf E.ad a :: st) := by
  obtain ⟨p, l, e, R, s, m, args, below, meth, cd, cells, slots, Q⟩ := K
  intro H locs ls hW hl hc
  obtain ⟨hR, hF, hP, hS⟩ := hW
  obtain ⟨gK, gI, gT, gN⟩ := g
  obtain ⟨c0, c1⟩ := gT a (by omega)
  obtain ⟨v0, v1⟩ := gT v (by omega)
  have he := wsl_get (E := E) (w := w) c0 c1
  rw [cel_1 hk] at he
  have hev := wsl_get (E := E) (w := w) v0 v1
  rw [cel_obj hkv hκ.2] at hev
  obtain ⟨q, hq, hq1⟩ := Option.map_eq_some_iff.mp hcn
  rw [rf_p c0, rf_p v0]
  refine va_astq (D := E.D) (A := AA T E H0.size) (r := q) o.1 o.2.1 gK hP (wsl_D gI) hS (a - 1) 3 (v - 1) (κ - 1) he (by rw [hq1]; rfl) hev hq (vp_in_ii hi (by rw [hz]; exact hb)) d (fun H1 locs1 hP1 _ hS1 => ?_)
  have hset : (wsl T E w).set (a - 1) (E.ad a, .inl (E.c1, T.ln a, .inr (.inr (.inr (.inr (va_up (fun j => rq E.ad (w a j).toNat) (ii i).toNatClampNeg (some (E.ad v)))))))) = wsl T E (up w a i.toNat (v : Int)) := by
    rw [← wsl_up c0 c1, cel_1 hk, ii_clamp hi, aset_up rfl v0]
  have hP1' : va_P E.D T.cl (wsl T E (up w a i.toNat (v : Int))) H1 := by rw [← hset]; exact hP1
  exact k H1 locs1 ls ⟨RW_up hR (by unfold R32; omega), Fx_up hF (by rw [hk]; exact hfx), hP1', hS1⟩ hl hc
end JM
