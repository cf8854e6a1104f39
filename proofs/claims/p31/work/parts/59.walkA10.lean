/-! THE CLASS'S WALK: a tuple is taken in while it goes on -/
/-- a row with one more in it -/
def Ins (n : Nat) (l l' : List Nat) : Prop := l' = l ∨ ∃ l1 l2, l = l1 ++ l2 ∧ l' = l1 ++ n :: l2
theorem ins_split {n : Nat} : ∀ (l1 l2 pre : List Nat) (s : Nat) (rest : List Nat), l1 ++ l2 = pre ++ s :: rest → ∃ pre' rest', l1 ++ n :: l2 = pre' ++ s :: rest' ∧ (∀ x, x ∈ rest → x ∈ rest') ∧ rest'.length ≤ rest.length + 1 := by
  intro l1
  induction l1 with
  | nil =>
    intro l2 pre s rest h
    have h : l2 = pre ++ s :: rest := h
    exact ⟨n :: pre, rest, by rw [h]; rfl, fun _ hx => hx, Nat.le_succ _⟩
  | cons a l1 ih =>
    intro l2 pre s rest h
    cases pre with
    | nil =>
      have h : a :: (l1 ++ l2) = s :: rest := h
      injection h with h1 h2
      refine ⟨[], l1 ++ n :: l2, by rw [h1]; rfl, fun x hx => ?_, ?_⟩
      · rw [← h2] at hx
        rcases List.mem_append.mp hx with q | q
        · exact List.mem_append_left _ q
        · exact List.mem_append_right _ (List.mem_cons_of_mem _ q)
      · rw [← h2, List.length_append, List.length_append, List.length_cons]
        omega
    | cons b pre =>
      have h : a :: (l1 ++ l2) = b :: (pre ++ s :: rest) := h
      injection h with h1 h2
      obtain ⟨pre', rest', e, h3, h4⟩ := ih l2 pre s rest h2
      exact ⟨b :: pre', rest', by rw [h1]; show b :: (l1 ++ n :: l2) = _; rw [e]; rfl, h3, h4⟩
theorem Ins.split {n : Nat} {l l' pre rest : List Nat} {s : Nat} (h : Ins n l l') (he : l = pre ++ s :: rest) : ∃ pre' rest', l' = pre' ++ s :: rest' ∧ (∀ x, x ∈ rest → x ∈ rest') ∧ (rest'.length ≤ rest.length ∨ (l' ≠ l ∧ rest'.length ≤ rest.length + 1)) := by
  rcases h with h | ⟨l1, l2, h1, h2⟩
  · exact ⟨pre, rest, h.trans he, fun _ hx => hx, Or.inl (Nat.le_refl _)⟩
  · obtain ⟨pre', rest', e, h3, h4⟩ := ins_split (n := n) l1 l2 pre s rest (h1.symm.trans he)
    refine ⟨pre', rest', h2.trans e, h3, Or.inr ⟨fun q => ?_, h4⟩⟩
    have := congrArg List.length q
    rw [h1, h2, List.length_append, List.length_append, List.length_cons] at this
    omega
theorem Ins.mem {n : Nat} {l l' : List Nat} (h : Ins n l l') {x : Nat} (hx : x ∈ l) : x ∈ l' := by
  rcases h with h | ⟨l1, l2, h1, h2⟩
  · rw [h]; exact hx
  · rw [h1] at hx
    rw [h2]
    rcases List.mem_append.mp hx with q | q
    · exact List.mem_append_left _ q
    · exact List.mem_append_right _ (List.mem_cons_of_mem _ q)
/-- two worlds that a walk can't tell apart but for the model's rows -/
def Wal (b : Nat) (w w' : World) : Prop := (∀ k, w' 103 k = w 103 k) ∧ w' 104 = w 104 ∧ w' 105 = w 105 ∧ w' 106 = w 106 ∧ w' (b + 1) = w (b + 1) ∧ w' (b + 2) = w (b + 2) ∧ w' (b + 3) = w (b + 3)
theorem Wal_pl {b d : Nat} {w w' : World} (h : Wal b w w') : pl w' d = pl w d := by
  show (if w' 103 6 = -1 ∨ w' 103 6 < (d : Int) then d else if d = 0 then (w' 103 6).toNat else d - 1) = _
  rw [h.1 6]
  rfl
theorem Wal_isH {b : Nat} {w w' : World} (h : Wal b w w') : isH w' b = isH w b := by
  funext d
  show decide (w' (b + 1) (pl w' d) = 0) = decide (w (b + 1) (pl w d) = 0)
  rw [Wal_pl h, h.2.2.2.2.1]
theorem Wal_cov {b d : Nat} {w w' : World} {vs : Nat → Int} (h : Wal b w w') (hc : Cov w b d vs) : Cov w' b d vs := by
  intro j c' hj hc' hf
  rw [Wal_pl h, h.2.2.2.2.1] at hf
  rw [Wal_pl h, h.2.2.2.2.2.2]
  exact hc j c' hj hc' hf
theorem FrM.wal {b t : Nat} {w w' : World} (hkb : kdA b = 1) (hkt : kdA t = 6) (h : FrM t w w') : Wal b w w' := by
  have h1 := kd1 hkb
  have h6 := kd6 hkt
  exact ⟨fun k => h 103 (by omega) k, funext (h 104 (by omega)), funext (h 105 (by omega)), funext (h 106 (by omega)), funext (h (b + 1) (by omega)), funext (h (b + 2) (by omega)), funext (h (b + 3) (by omega))⟩
/-- frames with rows that may have grown -/
def Fs (N N' : Nat) : List FRM → List FRM → Prop
  | [], [] => True
  | (s, rest, vs) :: st, (s', rest', vs') :: st' => s' = s ∧ vs' = vs ∧ (∀ x, x ∈ rest → x ∈ rest') ∧ rest'.length + N ≤ rest.length + N' ∧ Fs N N' st st'
  | _, _ => False
theorem Fs.len {N N' : Nat} : ∀ {st st' : List FRM}, Fs N N' st st' → st'.length = st.length ∧ pth st' = pth st := by
  intro st
  induction st with
  | nil =>
    intro st' h
    cases st' with
    | nil => exact ⟨rfl, rfl⟩
    | cons f st' => exact absurd h (fun h => h)
  | cons f st ih =>
    intro st' h
    cases st' with
    | nil => exact absurd h (fun h => h)
    | cons f' st' =>
      obtain ⟨s, rest, vs⟩ := f
      obtain ⟨s', rest', vs'⟩ := f'
      obtain ⟨h1, h2, h3, h4, h5⟩ := h
      have := ih h5
      refine ⟨by rw [List.length_cons, List.length_cons, this.1], ?_⟩
      show s' :: pth st' = s :: pth st
      rw [this.2, h1]
theorem Fs_dg {N N' E : Nat} {F : Nat → Bool} (hN : N' ≤ 48) : ∀ {st st' : List FRM}, Fs N N' st st' → dg F E (48 - N') st' ≤ dg F E (48 - N) st := by
  intro st
  induction st with
  | nil =>
    intro st' h
    cases st' with
    | nil => exact Nat.le_refl _
    | cons f st' => exact absurd h (fun h => h)
  | cons f st ih =>
    intro st' h
    cases st' with
    | nil => exact absurd h (fun h => h)
    | cons f' st' =>
      obtain ⟨s, rest, vs⟩ := f
      obtain ⟨s', rest', vs'⟩ := f'
      obtain ⟨h1, h2, h3, h4, h5⟩ := h
      have h6 := ih h5
      have h7 := h5.len
      show (if F st'.length = true then rest'.length + (48 - N') else 0) * wg F (E - st'.length - 1) (st'.length + 1) + _ ≤ (if F st.length = true then rest.length + (48 - N) else 0) * wg F (E - st.length - 1) (st.length + 1) + _
      rw [h7.1]
      refine Nat.add_le_add (Nat.mul_le_mul_right _ ?_) h6
      split
      · omega
      · exact Nat.le_refl _
/-- the stack stands over the grown model -/
theorem StO_take {Q Q' : QQ} {w0 w0' w w' : World} {b N N' n : Nat} {L L' : Nat → List Nat} (hW : Wal b w0 w0') (h5 : w' 105 = w 105) (h6 : w' 106 = w 106) (hN : N ≤ N') (hI : ∀ r, Ins n (L r) (L' r)) (hI2 : ∀ r, L' r ≠ L r → N + 1 ≤ N') (hQ : ∀ d vs s cur, Q d vs s cur → Q' d vs s cur) :
    ∀ (st : List FRM) (cur : Nat → Int), StO w0 b L Q w st cur → ∃ st', Fs N N' st st' ∧ StO w0' b L' Q' w' st' cur := by
  intro st
  induction st with
  | nil => intro cur h; exact ⟨[], trivial, h⟩
  | cons f st ih =>
    intro cur h
    obtain ⟨s, rest, vs⟩ := f
    obtain ⟨⟨m, m1, m2, m3, m4, m5, m6, mq, pre, m7⟩, hst0⟩ := h
    obtain ⟨st', hF, hst'⟩ := ih vs hst0
    have hlen := hF.len.1
    have hcnd : ∃ pre' rest', cnd w0' b L' st.length = pre' ++ s :: rest' ∧ (∀ x, x ∈ rest → x ∈ rest') ∧ rest'.length + N ≤ rest.length + N' := by
      unfold cnd at m7 ⊢
      rw [Wal_pl hW, hW.2.2.2.2.1, hW.2.2.2.2.2.1]
      by_cases f0 : w0 (b + 1) (pl w0 st.length) = 0
      · rw [if_pos f0] at m7 ⊢
        obtain ⟨pre', rest', e, h1, h2⟩ := (hI (w0 (b + 2) (pl w0 st.length)).toNat).split m7
        refine ⟨pre', rest', e, h1, ?_⟩
        rcases h2 with h2 | ⟨h2, h3⟩
        · omega
        · have := hI2 _ h2; omega
      · rw [if_neg f0] at m7 ⊢
        exact ⟨pre, rest, m7, fun _ hx => hx, by omega⟩
    obtain ⟨pre', rest', e, h1, h2⟩ := hcnd
    refine ⟨(s, rest', vs) :: st', ⟨rfl, rfl, h1, h2, hF⟩, ⟨m, m1, ?_, m3, m4, ?_, ?_, ?_, pre', ?_⟩, hst'⟩
    · rw [hlen, Wal_pl hW, h6]; exact m2
    · rw [hlen]; exact Wal_cov hW m5
    · rw [hlen, Wal_pl hW, h5, hW.2.2.2.2.1]; exact m6
    · rw [hlen]; exact hQ _ _ _ _ mq
    · rw [hlen]; exact e
/-- what was still to be found is still to be found, if its steps are as they were -/
theorem rem_take {Q : QQ} {w0 w : World} {b E N N' : Nat} {L : Nat → List Nat} {O O' : Nat → (Nat → Int) → Nat → Option ((Nat → Int) × Nat)} {C' : Nat → List Nat} {P : Nat → Nat → Prop} (hO : ∀ d vs s, d < E → s ∈ cnd w0 b L d → P d s → O' d vs s = O d vs s) (hC : ∀ d s, d < E → s ∈ cnd w0 b L d → s ∈ C' d) {x : (Nat → Int) × List Nat} (hP : AllP P x.2) :
    ∀ (st st' : List FRM) (cur : Nat → Int), st.length ≤ E → StO w0 b L Q w st cur → Fs N N' st st' → x ∈ rem O (cnd w0 b L) E st → x ∈ rem O' C' E st' := by
  have hEn : ∀ (k d : Nat) (vs : Nat → Int) (pa : List Nat), d + k ≤ E → pa.length = d → En O (cnd w0 b L) k d vs pa x → En O' C' k d vs pa x := by
    intro k
    induction k with
    | zero => intro d vs pa _ _ h; exact h
    | succ k ih =>
      intro d vs pa hdk hd h
      obtain ⟨s, hs, q, hq, h⟩ := h
      obtain ⟨l, hl⟩ := En_pa _ _ _ _ _ h
      have hPs : P d s := by
        have hP := hP
        rw [hl] at hP
        have := (AllP_app l _ hP).1
        rwa [hd] at this
      exact ⟨s, hC d s (by omega) hs, q, by rw [hO d vs s (by omega) hs hPs]; exact hq, ih (d + 1) q.1 (s :: pa) (by omega) (by rw [List.length_cons, hd]) h⟩
  intro st
  induction st with
  | nil => intro st' cur _ _ _ hx; cases hx
  | cons f st ih =>
    intro st' cur hle hst hF hx
    rw [List.length_cons] at hle
    cases st' with
    | nil => exact absurd hF (fun h => h)
    | cons f' st' =>
      obtain ⟨s, rest, vs⟩ := f
      obtain ⟨s', rest', vs'⟩ := f'
      obtain ⟨h1, h2, h3, h4, h5⟩ := hF
      subst h1
      subst h2
      obtain ⟨⟨m, m1, m2, m3, m4, m5, m6, mq, pre, m7⟩, hst0⟩ := hst
      have hl := h5.len
      rcases mem_rem.mp hx with ⟨s1, hs1, q, hq, hE⟩ | hx
      · refine mem_rem.mpr (Or.inl ⟨s1, h3 s1 hs1, q, ?_, ?_⟩)
        · have hm : s1 ∈ cnd w0 b L st.length := by
            rw [m7]
            exact List.mem_append_right _ (List.mem_cons_of_mem _ hs1)
          obtain ⟨l, hl2⟩ := En_pa _ _ _ _ _ hE
          have hPs : P st.length s1 := by
            have hP := hP
            rw [hl2] at hP
            have := (AllP_app l _ hP).1
            have e : (pth st).length = st.length := by unfold pth; rw [List.length_map]
            rwa [e] at this
          rw [hl.1, hO st.length vs' s1 (by omega) hm hPs]
          exact hq
        · rw [hl.1, hl.2]
          exact hEn _ _ _ _ (by omega) (by unfold pth; simp) hE
      · exact mem_rem.mpr (Or.inr (ih st' vs' (by omega) hst0 h5 hx))
