/-! CONSTRUCTORS: a world that grows. tr T n: the first n cells of T; addresses come one by one -/
def tr (T : TT) (n : Nat) : TT := (fun c => if c ≤ n then T.kd c else 0, T.ln, T.cl, T.isref, fun _ _ => none, T.r0, T.r1, n)
theorem tr_Tn {T : TT} (h : Tn T) (n : Nat) : Tn (tr T n) := by
  intro c hc
  have hc' : (if c ≤ n then T.kd c else 0) ≠ 0 := hc
  by_cases q : c ≤ n
  · rw [if_pos q] at hc'
    exact ⟨(h c hc').1, q⟩
  · rw [if_neg q] at hc'
    exact absurd rfl hc'
theorem tr_kd {T : TT} {n c κ : Nat} (h : T.kd c = κ) (hc : c ≤ n) : (tr T n).kd c = κ := by
  show (if c ≤ n then T.kd c else 0) = κ
  rw [if_pos hc, h]
theorem tr_Fx {T : TT} {n : Nat} {w : World} : Fx (tr T n) w := fun _ _ _ _ _ h => by cases h
def sad (S : EE) (ad : Nat → Nat) : EE := (S.1, S.2.1, S.2.2.1, S.2.2.2.1, S.2.2.2.2.1, ad)
def Zn (n : Nat) (w : World) : Prop := ∀ c j : Nat, n < c → w c j = 0
theorem Zn_up {n c k : Nat} {v : Int} {w : World} (h : Zn n w) (hc : c ≤ n) : Zn n (up w c k v) := fun c' j hc' => by rw [up_ne (by omega)]; exact h c' j hc'
theorem Zn_le {n m : Nat} {w : World} (h : Zn n w) (hc : n ≤ m) : Zn m w := fun c j hj => h c j (by omega)
/-- which addresses are new -/
def Ag (n n' sz : Nat) (ad ad' : Nat → Nat) : Prop := (∀ c, c ≤ n → ad' c = ad c) ∧ ∀ c, n < c → c ≤ n' → sz ≤ ad' c
theorem Ag.refl {n sz : Nat} {ad : Nat → Nat} : Ag n n sz ad ad := ⟨fun _ _ => rfl, fun _ h1 h2 => by omega⟩
theorem Ag.trans {n n1 n2 sz sz1 : Nat} {ad ad1 ad2 : Nat → Nat} (h : Ag n n1 sz ad ad1) (h' : Ag n1 n2 sz1 ad1 ad2) (hn : n ≤ n1) (hs : sz ≤ sz1) : Ag n n2 sz ad ad2 :=
  ⟨fun c hc => (h'.1 c (by omega)).trans (h.1 c hc), fun c h1 h2 => by
    by_cases q : c ≤ n1
    · rw [h'.1 c q]; exact h.2 c h1 q
    · exact Nat.le_trans hs (h'.2 c (by omega) h2)⟩
def kAdd (K : KT) (a b : Nat) : KT := (K.1, K.2.1, K.2.2.1, K.2.2.2.1, K.2.2.2.2.1, K.2.2.2.2.2.1, K.2.2.2.2.2.2.1, K.2.2.2.2.2.2.2.1, K.2.2.2.2.2.2.2.2.1, K.2.2.2.2.2.2.2.2.2.1, K.2.2.2.2.2.2.2.2.2.2.1 + a, K.2.2.2.2.2.2.2.2.2.2.2.1 + b, K.2.2.2.2.2.2.2.2.2.2.2.2)
def KSim (K K' : KT) : Prop := ∃ a b, K' = kAdd K a b
theorem KSim.refl {K : KT} : KSim K K := ⟨0, 0, rfl⟩
theorem KSim.add {K K' : KT} {a b : Nat} (h : KSim K K') : KSim K (kAdd K' a b) := by
  obtain ⟨x, y, rfl⟩ := h
  exact ⟨x + a, y + b, by unfold kAdd; simp only [Nat.add_assoc]⟩
def KC (K : KT) (a b : Nat) : Prop := K.2.2.2.2.2.2.2.2.2.2.1 = a ∧ K.2.2.2.2.2.2.2.2.2.2.2.1 = b
def OkC (K : KT) (cc : ByteArray) (own : String) (rm : Room) : Prop := Ok K cc own rm ∧ K.2.2.2.2.2.2.2.2.1.name = "<init>"
theorem OkC.add {K : KT} {cc : ByteArray} {own : String} {rm : Room} {a b : Nat} (h : OkC K cc own rm) : OkC (kAdd K a b) cc own rm := by
  obtain ⟨p, l, e, R, s, m, args, below, meth, c, cells, slots, Q⟩ := K
  exact h
theorem Gd.add {T : TT} {E : EE} {K : KT} {a b : Nat} (h : Gd T E K) : Gd T E (kAdd K a b) := by
  obtain ⟨p, l, e, R, s, m, args, below, meth, c, cells, slots, Q⟩ := K
  exact h
theorem rfa {S : EE} {ad : Nat → Nat} {a c : Nat} (h : ad c = a) (h0 : c ≠ 0) : Value.ref a = rf (sad S ad).ad c := by
  rw [rf_p h0, ← h]
  rfl
theorem J_t1 {ω : Type} {K : KT} {Wd : ω → Heap → List Loc → Prop} {w : ω} {pc : Nat} {L : List (Option Value)} {st : List Value} {V V' : Value} (h : V = V') (k : Jj K Wd w pc L (V' :: st)) : Jj K Wd w pc L (V :: st) := by rw [h]; exact k
theorem J_t2 {ω : Type} {K : KT} {Wd : ω → Heap → List Loc → Prop} {w : ω} {pc : Nat} {L : List (Option Value)} {st : List Value} {U V V' : Value} (h : V = V') (k : Jj K Wd w pc L (U :: V' :: st)) : Jj K Wd w pc L (U :: V :: st) := by rw [h]; exact k
theorem J_t3 {ω : Type} {K : KT} {Wd : ω → Heap → List Loc → Prop} {w : ω} {pc : Nat} {L : List (Option Value)} {st : List Value} {U U' V V' : Value} (h : V = V') (k : Jj K Wd w pc L (U :: U' :: V' :: st)) : Jj K Wd w pc L (U :: U' :: V :: st) := by rw [h]; exact k
section JCO
variable {T : TT} {S : EE} {K : KT} {w w' : World} {H0 : Heap} {pc idx n n' : Nat} {L : List (Option Value)} {st vs : List Value} {cc bytes : ByteArray} {own : String} {rm rm' : Room} {y : MethodName} {maxL np κ N a b : Nat} {ad : Nat → Nat}
theorem J_aldA {ω : Type} {Wd : ω → Heap → List Loc → Prop} {w : ω} {i : Nat} {x : Nat} (o : OkC K cc own rm) (d : decode cc pc = .ok (.aload i, 2)) (hv : L[i]? = some (some (.ref x))) (k : Jj K Wd w (pc + 2) L (.ref x :: st)) : Jj K Wd w pc L st := by
  obtain ⟨p, l, e, R, s, m, args, below, meth, c, cells, slots, Q⟩ := K
  intro H locs ls hW hl hc
  exact lv_aload o.1.1 o.1.2.1 d (hl.2.2.2 _ _ hv) (k H locs ls hW hl hc)
theorem J_aldA_n {ω : Type} {Wd : ω → Heap → List Loc → Prop} {w : ω} {i : Fin 4} {x : Nat} (o : OkC K cc own rm) (d : decode cc pc = .ok (.aload_n i, 1)) (hv : L[(i : Nat)]? = some (some (.ref x))) (k : Jj K Wd w (pc + 1) L (.ref x :: st)) : Jj K Wd w pc L st := by
  obtain ⟨p, l, e, R, s, m, args, below, meth, c, cells, slots, Q⟩ := K
  intro H locs ls hW hl hc
  exact lv_aload_n o.1.1 o.1.2.1 d rfl (hl.2.2.2 _ _ hv) (k H locs ls hW hl hc)
theorem J_astA {ω : Type} {Wd : ω → Heap → List Loc → Prop} {w : ω} {i : Nat} {x : Nat} (o : OkC K cc own rm) (d : decode cc pc = .ok (.astore i, 2)) (hi : i < L.length) (k : Jj K Wd w (pc + 2) (L.set i (some (.ref x))) st) : Jj K Wd w pc L (.ref x :: st) := by
  obtain ⟨p, l, e, R, s, m, args, below, meth, c, cells, slots, Q⟩ := K
  intro H locs ls hW hl hc
  exact lv_astore o.1.1 o.1.2.1 d hl.has (by rw [← hl.2.1]; exact hi) rfl (fun ls' h' => k H locs ls' hW (hl.put hc h') (asc_set rfl hc))
theorem J_astA_n {ω : Type} {Wd : ω → Heap → List Loc → Prop} {w : ω} {i : Fin 4} {x : Nat} (o : OkC K cc own rm) (d : decode cc pc = .ok (.astore_n i, 1)) (hi : (i : Nat) < L.length) (k : Jj K Wd w (pc + 1) (L.set (i : Nat) (some (.ref x))) st) : Jj K Wd w pc L (.ref x :: st) := by
  obtain ⟨p, l, e, R, s, m, args, below, meth, c, cells, slots, Q⟩ := K
  intro H locs ls hW hl hc
  exact lv_astore_n o.1.1 o.1.2.1 d rfl hl.has (by rw [← hl.2.1]; exact hi) rfl (fun ls' h' => k H locs ls' hW (hl.put hc h') (asc_set rfl hc))
theorem J_objinit {ω : Type} {Wd : ω → Heap → List Loc → Prop} {w : ω} {x : Nat} (o : OkC K cc own rm) (d : decode cc pc = .ok (.invokespecial idx, 3)) (h1 : Cond.methodLink own idx Lib.objectInit ∈ GW) (h2 : Cond.instanceMethod Lib.objectInit ∈ GW) (h3 : Cond.code Lib.objectInit ⟨#[0xb1]⟩ 1 none ∈ GW) (hf : 1 ≤ rm.frames ∧ 21 ≤ rm.locals) (k : Jj K Wd w (pc + 3) L []) : Jj K Wd w pc L [.ref x] := by
  obtain ⟨p, l, e, R, s, m, args, below, meth, c, cells, slots, Q⟩ := K
  intro H locs ls hW hl hc
  have hR : R = rm := o.1.2.2.2.2.2
  exact W.objInit o.1.1 o.1.2.1 o.1.2.2.1 (o.1.2.2.2.1 _ h1) (o.1.2.2.2.1 _ h2) (o.1.2.2.2.1 _ h3) (g := F0 m pc ls [.ref x]) rfl hl.1 rfl d (by rw [hR]; exact hf.1) (by rw [hR]; exact Nat.le_trans (by show 2 * 0 + 0 + 12 ≤ 21; omega) hf.2) (k H locs ls hW hl hc)
theorem J_iincC {ω : Type} {Wd : ω → Heap → List Loc → Prop} {w : ω} {i : Nat} {m x y : Int} (o : OkC K cc own rm) (d : decode cc pc = .ok (.iinc i m, 3)) (hv : L[i]? = some (some (.int (ii x)))) (he : wr (x + m) = y) (k : Jj K Wd w (pc + 3) (L.set i (some (.int (ii y)))) st) : Jj K Wd w pc L st :=
  J_iinc o.1 d hv (by rw [he]; exact k)
theorem AA_tr {E : EE} {ad' : Nat → Nat} {sz : Nat} (hag : Ag n n' sz ad ad') (hn : n ≤ n') : ∀ q, AA (tr T n) (sad S ad) sz q ↔ AA (tr T n') (sad S ad') sz q := by
  intro q
  constructor
  · rintro (⟨c, h0, h1, h2⟩ | h)
    · have h1' : c ≤ n := h1
      exact Or.inl ⟨c, h0, (Nat.le_trans h1 hn : c ≤ n'), h2.trans (hag.1 c h1').symm⟩
    · exact Or.inr h
  · rintro (⟨c, h0, h1, h2⟩ | h)
    · have h1' : c ≤ n' := h1
      have h2' : q = ad' c := h2
      by_cases hc : c ≤ n
      · exact Or.inl ⟨c, h0, hc, h2'.trans (hag.1 c hc)⟩
      · exact Or.inr (by rw [h2']; exact hag.2 c (by omega) h1')
    · exact Or.inr h
theorem va_S_iff {A A' : Nat → Prop} (h : ∀ q, A q ↔ A' q) {H0 H : Heap} {locs : List Loc} (hS : va_S A H0 H locs) : va_S A' H0 H locs :=
  ⟨hS.1, fun q h1 h2 => hS.2.1 q h1 (fun z => h2 ((h q).mp z)), fun l hl => (h _).mp (hS.2.2 l hl)⟩
/-- a new cell's place in the world -/
theorem grow_P {H H1 : Heap} {e : va_E} (hP : va_P (sad S ad).D T.cl (wsl (tr T n) (sad S ad) w) H) (hkeep : ∀ q, q < H.size → H1[q]? = H[q]?) (he : va_at (sad S ad).D T.cl (H.size, cel (tr T (n + 1)) (sad S (fun c => if c = n + 1 then H.size else ad c)) w (n + 1)) H1)
    (hsame : ∀ c, c ≠ 0 → c ≤ n → cel (tr T n) (sad S ad) w c = cel (tr T (n + 1)) (sad S (fun c => if c = n + 1 then H.size else ad c)) w c) :
    va_P (sad S ad).D T.cl (wsl (tr T (n + 1)) (sad S (fun c => if c = n + 1 then H.size else ad c)) w) H1 := by
  intro k q hk
  obtain ⟨h1, rfl⟩ := wsl_spec hk
  have h1' : k < n + 1 := h1
  by_cases q : k = n
  · subst q
    have : (sad S (fun c => if c = k + 1 then H.size else ad c)).ad (k + 1) = H.size := if_pos rfl
    rw [this]
    exact he
  · have e1 : (sad S (fun c => if c = n + 1 then H.size else ad c)).ad (k + 1) = ad (k + 1) := if_neg (by omega)
    rw [e1, ← hsame (k + 1) (by omega) (by omega)]
    have g := hP k _ (by
      have := wsl_get (T := tr T n) (E := sad S ad) (w := w) (c := k + 1) (by omega) (show k + 1 ≤ n by omega)
      rw [Nat.add_sub_cancel] at this
      exact this)
    exact g.kept (hkeep _ g.lt)
/-- references in the world are of cells that are there -/
def Rn (T : TT) (n : Nat) (w : World) : Prop := ∀ c j : Nat, (w c j).toNat ≤ n ∨ T.isref (T.kd c) j = false ∧ T.kd c ≠ 42 ∧ T.kd c ≠ 43
theorem cel_same {h : Nat} (hr : Rn T n w) {c : Nat} (h0 : c ≠ 0) (hc : c ≤ n) : cel (tr T n) (sad S ad) w c = cel (tr T (n + 1)) (sad S (fun c => if c = n + 1 then h else ad c)) w c := by
  have ek : (tr T n).kd c = T.kd c := if_pos hc
  have ek' : (tr T (n + 1)).kd c = T.kd c := if_pos (by omega)
  have ev : fval (tr T n) (sad S ad) (T.kd c) w c = fval (tr T (n + 1)) (sad S (fun c => if c = n + 1 then h else ad c)) (T.kd c) w c := by
    funext j
    unfold fval
    show (if T.isref (T.kd c) j = true then rf ad (w c j).toNat else _) = (if T.isref (T.kd c) j = true then rf (fun c => if c = n + 1 then h else ad c) (w c j).toNat else _)
    by_cases q : T.isref (T.kd c) j = true
    · rw [if_pos q, if_pos q]
      rcases hr c j with z | z
      · unfold rf
        by_cases e : (w c j).toNat = 0
        · rw [if_pos e, if_pos e]
        · rw [if_neg e, if_neg e]
          show Value.ref (ad _) = Value.ref (if _ = n + 1 then h else ad _)
          rw [if_neg (by omega)]
      · rw [z.1] at q; cases q
    · rw [if_neg q, if_neg q]
  unfold cel
  rw [ek, ek', ev]
  have eq2 : T.kd c = 42 ∨ T.kd c = 43 → (fun j => rq (sad S ad).ad (w c j).toNat) = fun j => rq (sad S (fun c => if c = n + 1 then h else ad c)).ad (w c j).toNat := by
    intro hk
    funext j
    rcases hr c j with z | z
    · unfold rq
      by_cases e : (w c j).toNat = 0
      · rw [if_pos e, if_pos e]
      · rw [if_neg e, if_neg e]
        show some (ad _) = some (if _ = n + 1 then h else ad _)
        rw [if_neg (by omega)]
    · omega
  by_cases h40 : T.kd c = 40
  · rw [if_pos h40, if_pos h40]; rfl
  · rw [if_neg h40, if_neg h40]
    by_cases h41 : T.kd c = 41
    · rw [if_pos h41, if_pos h41]; rfl
    · rw [if_neg h41, if_neg h41]
      by_cases h42 : T.kd c = 42
      · rw [if_pos h42, if_pos h42, eq2 (Or.inl h42)]; rfl
      · rw [if_neg h42, if_neg h42]
        by_cases h43 : T.kd c = 43
        · rw [if_pos h43, if_pos h43, eq2 (Or.inr h43)]; rfl
        · rw [if_neg h43, if_neg h43]; rfl
theorem Inj_grow {H : Heap} (hI : Inj (tr T n) (sad S ad)) (hP : va_P (sad S ad).D T.cl (wsl (tr T n) (sad S ad) w) H) : Inj (tr T (n + 1)) (sad S (fun c => if c = n + 1 then H.size else ad c)) := by
  have hlt : ∀ c, c ≠ 0 → c ≤ n → ad c < H.size := fun c h0 h1 => by
    have := hP (c - 1) _ (wsl_get (T := tr T n) (E := sad S ad) (w := w) h0 h1)
    exact this.lt
  intro c c' h0 h1 h0' h1' h
  have h1n : c ≤ n + 1 := h1
  have h1n' : c' ≤ n + 1 := h1'
  have h2 : (if c = n + 1 then H.size else ad c) = (if c' = n + 1 then H.size else ad c') := h
  by_cases q : c = n + 1
  · by_cases q' : c' = n + 1
    · omega
    · rw [if_pos q, if_neg q'] at h2
      have := hlt c' h0' (by omega)
      omega
  · by_cases q' : c' = n + 1
    · rw [if_neg q, if_pos q'] at h2
      have := hlt c h0 (by omega)
      omega
    · rw [if_neg q, if_neg q'] at h2
      exact hI c c' h0 (show c ≤ n by omega) h0' (show c' ≤ n by omega) h2
/-- what the next world has, when one cell was made -/
theorem grow {p : Program} {l : Launch} {e : Env} {R : Room} {s : State} {m : MethodId} {args : Array Value} {below : List Frame} {meth : Method} {c : Code} {cells slots : Nat} {Q : State → Prop} {ls : Array Slot} {H H1 : Heap} {locs : List Loc} {pc' : Nat}
    (hT : Tn T) (g : Gd (tr T n) (sad S ad) (p, l, e, R, s, m, args, below, meth, c, cells, slots, Q)) (hW : WdT (tr T n) (sad S ad) H0 w H locs) (hr : Rn T n w) (hkeep : ∀ q, q < H.size → H1[q]? = H[q]?) (hz : H1.size = H.size + 1) (he : va_at S.D T.cl (H.size, cel (tr T (n + 1)) (sad S (fun c => if c = n + 1 then H.size else ad c)) w (n + 1)) H1)
    {a b : Nat} (hl : hasL c ls L) (hc : ∀ q ∈ ascL L, q.2.category = 1)
    (k : ∀ (ad' : Nat → Nat) (q : Nat), Ag n (n + 1) H0.size ad ad' → ad' (n + 1) = q → Gd (tr T (n + 1)) (sad S ad') (p, l, e, R, s, m, args, below, meth, c, cells + a, slots + b, Q) → Jj (p, l, e, R, s, m, args, below, meth, c, cells + a, slots + b, Q) (WdT (tr T (n + 1)) (sad S ad') H0) w pc' L (.ref q :: st)) :
    W p l e R s m args below meth c H1 locs (cells + a) (slots + b) Q (F0 m pc' ls (.ref H.size :: st)) := by
  obtain ⟨hR, hF, hP, hS⟩ := hW
  have hag : Ag n (n + 1) H0.size ad (fun c => if c = n + 1 then H.size else ad c) := ⟨fun c h => if_neg (by omega), fun c h1 h2 => by show H0.size ≤ if c = n + 1 then H.size else ad c; rw [if_pos (by omega)]; exact hS.1⟩
  refine k (fun c => if c = n + 1 then H.size else ad c) H.size hag (if_pos rfl) ⟨g.1, Inj_grow g.2.1 hP, tr_Tn hT _, g.2.2.2⟩ H1 locs ls ⟨hR, tr_Fx, grow_P (e := .inl (0, 0, .inl (fun _ => 0))) hP hkeep he (fun c h0 h1 => cel_same hr h0 h1), ?_⟩ hl hc
  refine va_S_iff (AA_tr (E := S) hag (Nat.le_succ n)) ⟨Nat.le_trans hS.1 (by omega), fun q h1 h2 => (hkeep q (Nat.lt_of_lt_of_le h1 hS.1)).trans (hS.2.1 q h1 h2), hS.2.2⟩
theorem J_new {C : String} {F : u_T} {ty : Nat → FieldType} {a' b' : Nat} (o : OkC K cc own rm) (hT : Tn T) (g : Gd (tr T n) (sad S ad) K) (kc : KC K a b) (d : decode cc pc = .ok (.new idx, 3)) (hcl : Cond.classLink own idx C ∈ GW) (hin : Cond.instantiable C N ∈ GW) (hini : Cond.initialized C ∈ GW)
    (hc : T.cl[κ - 1]? = some (C, F, N)) (hF : ∀ w ∈ u_ws C F N, w ∈ GW) (hty : ∀ k, k < N → parseFieldDescriptor (F k).2.2.1 = some (ty k)) (hk : T.kd (n + 1) = κ) (hκ : 0 < κ ∧ κ < 40) (hd : ∀ j, j < N → defaultValue (ty j) = if T.isref κ j = true then .null else .int 0)
    (hz : Zn n w) (hr : Rn T n w) (ha : a + 1 = a') (hb : b + N = b') (hroom : a' ≤ rm.cells ∧ b' ≤ rm.slots)
    (k : ∀ (K' : KT) (ad' : Nat → Nat) (q : Nat), KSim K K' → OkC K' cc own rm → KC K' a' b' → Ag n (n + 1) H0.size ad ad' → ad' (n + 1) = q → Gd (tr T (n + 1)) (sad S ad') K' → Jj K' (WdT (tr T (n + 1)) (sad S ad') H0) w (pc + 3) L (.ref q :: st)) : Jj K (WdT (tr T n) (sad S ad) H0) w pc L st := by
  have o' : OkC (kAdd K 1 N) cc own rm := o.add
  obtain ⟨p, l, e, R, s, m, args, below, meth, cd, cells, slots, Q⟩ := K
  intro H locs ls hW hl hcc
  have hR : R = rm := o.1.2.2.2.2.2
  obtain ⟨kc1, kc2⟩ := kc
  have kc1' : cells = a := kc1
  have kc2' : slots = b := kc2
  obtain ⟨hKn, hfc, hkk⟩ := g.1.1 (κ - 1) _ hc
  have hcell : cells + 1 ≤ R.cells := by rw [hR, kc1']; exact Nat.le_trans (by omega) hroom.1
  have hslot : slots + N ≤ R.slots := by rw [hR, kc2']; exact Nat.le_trans (by omega) hroom.2
  refine W.newcK o.1.1 o.1.2.1 o.1.2.2.1 (o.1.2.2.2.1 _ hcl) (o.1.2.2.2.1 _ hin) (o.1.2.2.2.1 _ hini) (g := F0 m pc ls st) rfl d hcell hslot hfc rfl (fun H1 kC hkC e1 z1 o1 => ?_)
  refine grow (a := 1) (b := N) hT g hW hr o1 z1 ?_ hl hcc (fun ad' q hag hq hg => k _ ad' q ⟨1, N, rfl⟩ o' ⟨by show cells + 1 = a'; omega, by show slots + N = b'; omega⟩ hag hq hg)
  have hkn : (tr T (n + 1)).kd (n + 1) = κ := tr_kd hk (Nat.le_refl _)
  rw [cel_obj hkn hκ.2, nfT_eq (show (tr T (n + 1)).cl[κ - 1]? = some (C, F, N) from hc)]
  have hts : ∀ w ∈ GW, w.before args s = true := o.1.2.2.2.1
  refine ⟨_, hc, (u_born ty hts hF ⟨hKn, hfc, hkk⟩ hkC e1 hty).to (fun j hj => ?_)⟩
  rw [hd j hj]
  have e2 : vp_V ((List.range N).map (fval (tr T (n + 1)) (sad S (fun c => if c = n + 1 then H.size else ad c)) κ w (n + 1))) j = fval (tr T (n + 1)) (sad S (fun c => if c = n + 1 then H.size else ad c)) κ w (n + 1) j := by
    unfold vp_V
    rw [List.getD_eq_getElem?_getD, List.getElem?_map, List.getElem?_range hj]
    rfl
  rw [e2]
  unfold fval
  show _ = if T.isref κ j = true then _ else _
  rw [hz (n + 1) j (by omega)]
  by_cases q : T.isref κ j = true
  · rw [if_pos q, if_pos q]; rfl
  · rw [if_neg q, if_neg q]; rfl
theorem J_newI {a' b' : Nat} (o : OkC K cc own rm) (hT : Tn T) (g : Gd (tr T n) (sad S ad) K) (kc : KC K a b) (d : decode cc pc = .ok (.newarray .int, 2)) (harr : Cond.arrayClass .int ∈ GW) (hk : T.kd (n + 1) = 40) (hN : T.ln (n + 1) = N) (hn : N < 100000)
    (hz : Zn n w) (hr : Rn T n w) (ha : a + 1 = a') (hb : b + N = b') (hroom : a' ≤ rm.cells ∧ b' ≤ rm.slots)
    (k : ∀ (K' : KT) (ad' : Nat → Nat) (q : Nat), KSim K K' → OkC K' cc own rm → KC K' a' b' → Ag n (n + 1) H0.size ad ad' → ad' (n + 1) = q → Gd (tr T (n + 1)) (sad S ad') K' → Jj K' (WdT (tr T (n + 1)) (sad S ad') H0) w (pc + 2) L (.ref q :: st)) : Jj K (WdT (tr T n) (sad S ad) H0) w pc L (.int (ii (N : Int)) :: st) := by
  have o' : OkC (kAdd K 1 N) cc own rm := o.add
  obtain ⟨p, l, e, R, s, m, args, below, meth, cd, cells, slots, Q⟩ := K
  intro H locs ls hW hl hcc
  have hR : R = rm := o.1.2.2.2.2.2
  obtain ⟨kc1, kc2⟩ := kc
  have kc1' : cells = a := kc1
  have kc2' : slots = b := kc2
  have hcell : cells + 1 ≤ R.cells := by rw [hR, kc1']; exact Nat.le_trans (by omega) hroom.1
  have hslot : slots + N ≤ R.slots := by rw [hR, kc2']; exact Nat.le_trans (by omega) hroom.2
  have hRN : R32 (N : Int) := ⟨by omega, by omega⟩
  refine va_newaK (atype := .int) o.1.1 o.1.2.1 (o.1.2.2.2.1 _ harr) (g := F0 m pc ls (.int (ii (N : Int)) :: st)) rfl d rfl (by rw [show (0 : Int32) = ii 0 from rfl, ii_lt hRN ⟨by decide, by decide⟩]; omega) (by rw [ii_clamp hRN]; rfl) (by show N * 4 ≤ 536870912; omega) hcell hslot rfl (fun H1 cA e1 z1 o1 hA hf => ?_)
  refine grow (a := 1) (b := N) hT g hW hr o1 z1 ?_ hl hcc (fun ad' q hag hq hg => k _ ad' q ⟨1, N, rfl⟩ o' ⟨by show cells + 1 = a'; omega, by show slots + N = b'; omega⟩ hag hq hg)
  have hkn : (tr T (n + 1)).kd (n + 1) = 40 := tr_kd hk (Nat.le_refl _)
  rw [cel_I hkn]
  have hcA : cA = S.cI := by
    have h2 := (g.1.2 0 (S.cI, .int) rfl).2
    have h3 : s.vm.findClass ("[" ++ FieldType.int.toString) = some S.cI := h2
    exact Option.some.inj (hf.symm.trans h3)
  show H1[H.size]? = some (vp_cell S.cI (T.ln (n + 1), .inl (fun j => ii (w (n + 1) j))))
  rw [e1, hcA, hN]
  have e3 : (fun j => ii (w (n + 1) j)) = fun _ => 0 := by
    funext j
    rw [hz (n + 1) j (by omega)]
    rfl
  rw [e3]
  rfl
theorem J_newZ {a' b' : Nat} (o : OkC K cc own rm) (hT : Tn T) (g : Gd (tr T n) (sad S ad) K) (kc : KC K a b) (d : decode cc pc = .ok (.newarray .boolean, 2)) (harr : Cond.arrayClass .boolean ∈ GW) (hk : T.kd (n + 1) = 41) (hN : T.ln (n + 1) = N) (hn : N < 100000)
    (hz : Zn n w) (hr : Rn T n w) (ha : a + 1 = a') (hb : b + N = b') (hroom : a' ≤ rm.cells ∧ b' ≤ rm.slots)
    (k : ∀ (K' : KT) (ad' : Nat → Nat) (q : Nat), KSim K K' → OkC K' cc own rm → KC K' a' b' → Ag n (n + 1) H0.size ad ad' → ad' (n + 1) = q → Gd (tr T (n + 1)) (sad S ad') K' → Jj K' (WdT (tr T (n + 1)) (sad S ad') H0) w (pc + 2) L (.ref q :: st)) : Jj K (WdT (tr T n) (sad S ad) H0) w pc L (.int (ii (N : Int)) :: st) := by
  have o' : OkC (kAdd K 1 N) cc own rm := o.add
  obtain ⟨p, l, e, R, s, m, args, below, meth, cd, cells, slots, Q⟩ := K
  intro H locs ls hW hl hcc
  have hR : R = rm := o.1.2.2.2.2.2
  obtain ⟨kc1, kc2⟩ := kc
  have kc1' : cells = a := kc1
  have kc2' : slots = b := kc2
  have hcell : cells + 1 ≤ R.cells := by rw [hR, kc1']; exact Nat.le_trans (by omega) hroom.1
  have hslot : slots + N ≤ R.slots := by rw [hR, kc2']; exact Nat.le_trans (by omega) hroom.2
  have hRN : R32 (N : Int) := ⟨by omega, by omega⟩
  refine va_newaK (atype := .boolean) o.1.1 o.1.2.1 (o.1.2.2.2.1 _ harr) (g := F0 m pc ls (.int (ii (N : Int)) :: st)) rfl d rfl (by rw [show (0 : Int32) = ii 0 from rfl, ii_lt hRN ⟨by decide, by decide⟩]; omega) (by rw [ii_clamp hRN]; rfl) (by show N * 1 ≤ 536870912; omega) hcell hslot rfl (fun H1 cA e1 z1 o1 hA hf => ?_)
  refine grow (a := 1) (b := N) hT g hW hr o1 z1 ?_ hl hcc (fun ad' q hag hq hg => k _ ad' q ⟨1, N, rfl⟩ o' ⟨by show cells + 1 = a'; omega, by show slots + N = b'; omega⟩ hag hq hg)
  have hkn : (tr T (n + 1)).kd (n + 1) = 41 := tr_kd hk (Nat.le_refl _)
  rw [cel_Z hkn]
  have hcA : cA = S.cZ := by
    have h2 := (g.1.2 1 (S.cZ, .boolean) rfl).2
    have h3 : s.vm.findClass ("[" ++ FieldType.boolean.toString) = some S.cZ := h2
    exact Option.some.inj (hf.symm.trans h3)
  show H1[H.size]? = some (vp_cell S.cZ (T.ln (n + 1), .inl (fun j => ii (w (n + 1) j))))
  rw [e1, hcA, hN]
  have e3 : (fun j => ii (w (n + 1) j)) = fun _ => 0 := by
    funext j
    rw [hz (n + 1) j (by omega)]
    rfl
  rw [e3]
  rfl
theorem J_newO {a' b' : Nat} {C : String} {i : Nat} (hi : i = 0 ∧ C = T.r0 ∨ i = 1 ∧ C = T.r1) (o : OkC K cc own rm) (hT : Tn T) (g : Gd (tr T n) (sad S ad) K) (kc : KC K a b) (d : decode cc pc = .ok (.anewarray idx, 3)) (hcl : Cond.classLink own idx C ∈ GW) (hover : Cond.arrayOver (.object C) ∈ lw_tbl) (hk : T.kd (n + 1) = 42 + i) (hN : T.ln (n + 1) = N) (hn : N < 100000)
    (hz : Zn n w) (hr : Rn T n w) (ha : a + 1 = a') (hb : b + N = b') (hroom : a' ≤ rm.cells ∧ b' ≤ rm.slots)
    (k : ∀ (K' : KT) (ad' : Nat → Nat) (q : Nat), KSim K K' → OkC K' cc own rm → KC K' a' b' → Ag n (n + 1) H0.size ad ad' → ad' (n + 1) = q → Gd (tr T (n + 1)) (sad S ad') K' → Jj K' (WdT (tr T (n + 1)) (sad S ad') H0) w (pc + 3) L (.ref q :: st)) : Jj K (WdT (tr T n) (sad S ad) H0) w pc L (.int (ii (N : Int)) :: st) := by
  have o' : OkC (kAdd K 1 N) cc own rm := o.add
  obtain ⟨p, l, e, R, s, m, args, below, meth, cd, cells, slots, Q⟩ := K
  intro H locs ls hW hl hcc
  have hR : R = rm := o.1.2.2.2.2.2
  obtain ⟨kc1, kc2⟩ := kc
  have kc1' : cells = a := kc1
  have kc2' : slots = b := kc2
  have hcell : cells + 1 ≤ R.cells := by rw [hR, kc1']; exact Nat.le_trans (by omega) hroom.1
  have hslot : slots + N ≤ R.slots := by rw [hR, kc2']; exact Nat.le_trans (by omega) hroom.2
  have hRN : R32 (N : Int) := ⟨by omega, by omega⟩
  refine W.anew o.1.1 o.1.2.1 o.1.2.2.1 (o.1.2.2.2.1 _ hcl) (va_AO.use (g.2.2.2.2.2 _ hover)) (g := F0 m pc ls (.int (ii (N : Int)) :: st)) rfl d rfl (by rw [show (0 : Int32) = ii 0 from rfl, ii_lt hRN ⟨by decide, by decide⟩]; omega) (by rw [ii_clamp hRN]; show N * 4 ≤ 536870912; omega) hcell (by rw [ii_clamp hRN]; exact hslot) (fun cA kA comp f1 f2 f3 f4 => ?_)
  rw [ii_clamp hRN]
  generalize hH1 : H.push ({ cls := cA, slots := Array.replicate (N : Int).toNat .null, vm := .none } : Cell) = H1
  have z1 : H1.size = H.size + 1 := by rw [← hH1, Array.size_push]
  have e1 : H1[H.size]? = some (arrV cA N (fun _ => .null)) := by rw [← hH1, Array.getElem?_push_size, ← arrV_new]; rfl
  have o1 : ∀ q : Nat, q < H.size → H1[q]? = H[q]? := fun q hq => by rw [← hH1, Array.getElem?_push, if_neg (Nat.ne_of_lt hq)]
  refine grow (a := 1) (b := N) hT g hW hr o1 z1 ?_ hl hcc (fun ad' q hag hq hg => k _ ad' q ⟨1, N, rfl⟩ o' ⟨by show cells + 1 = a'; omega, by show slots + N = b'; omega⟩ hag hq hg)
  have hkn : (tr T (n + 1)).kd (n + 1) = 42 + i := tr_kd hk (Nat.le_refl _)
  have e3 : (fun j => rq (sad S (fun c => if c = n + 1 then H.size else ad c)).ad (w (n + 1) j).toNat) = fun _ => none := by
    funext j
    rw [hz (n + 1) j (by omega)]
    rfl
  rcases hi with ⟨rfl, rfl⟩ | ⟨rfl, rfl⟩
  · rw [cel_0 hkn, e3]
    have hcA : cA = S.c0 := by
      obtain ⟨kA2, comp2, -, -, -, h3⟩ := (g.1.2 2 (S.c0, .object T.r0) rfl).2
      exact Option.some.inj (f1.symm.trans h3)
    show H1[H.size]? = some (vp_cell S.c0 (T.ln (n + 1), _))
    rw [e1, hcA, hN]
    rfl
  · rw [cel_1 hkn, e3]
    have hcA : cA = S.c1 := by
      obtain ⟨kA2, comp2, -, -, -, h3⟩ := (g.1.2 3 (S.c1, .object T.r1) rfl).2
      exact Option.some.inj (f1.symm.trans h3)
    show H1[H.size]? = some (vp_cell S.c1 (T.ln (n + 1), _))
    rw [e1, hcA, hN]
    rfl
end JCO
