/-! BOTH: size, at -/
theorem sub_len {α : Type} {l l' : List α} (hl : l.Nodup) (h : ∀ x, x ∈ l → x ∈ l') : l.length ≤ l'.length := by
  by_cases hne : l = []
  · rw [hne]; exact Nat.zero_le _
  · obtain ⟨d, hd⟩ : ∃ d, d ∈ l := List.exists_mem_of_ne_nil l hne
    refine inj_len (n := l'.length) (f := fun i => l'.getD i d) hl (fun x hx => ?_)
    obtain ⟨i, hi, e⟩ := List.getElem_of_mem (h x hx)
    exact ⟨i, hi, by show l'.getD i d = x; rw [List.getD_eq_getElem?_getD, List.getElem?_eq_getElem hi, e]; rfl⟩
theorem cnt_filter {P : Nat → Bool} : ∀ n, cnt P n = ((List.range n).filter P).length := by
  intro n
  induction n with
  | zero => rfl
  | succ n ih =>
    rw [List.range_succ, List.filter_append, List.length_append, ← ih]
    show cnt P n + _ = _
    by_cases h : P n = true
    · rw [if_pos h]; simp [h]
    · rw [if_neg h]; simp [h]
/-- two rows of slots for the same tuples -/
theorem rows_len {l : List Nat} {P : Nat → Bool} {n : Nat} {c c' : Nat → Nat} (hl : l.Nodup) (hc : ∀ x y, x ∈ l → y ∈ l → c x = c y → x = y) (hc' : ∀ x y, x < n → y < n → P x = true → P y = true → c' x = c' y → x = y) (h : ∀ k, (∃ x, x ∈ l ∧ c x = k) ↔ ∃ x, x < n ∧ P x = true ∧ c' x = k) : l.length = cnt P n := by
  rw [cnt_filter]
  have h1 : (l.map c).Nodup := nodup_map hl hc
  have h2 : (((List.range n).filter P).map c').Nodup := nodup_map (List.Pairwise.filter _ List.nodup_range) (fun x y hx hy e => by
    have a := List.mem_filter.mp hx
    have b := List.mem_filter.mp hy
    exact hc' x y (List.mem_range.mp a.1) (List.mem_range.mp b.1) a.2 b.2 e)
  have e1 := sub_len h1 (l' := ((List.range n).filter P).map c') (fun k hk => by
    obtain ⟨x, hx, e⟩ := List.mem_map.mp hk
    obtain ⟨y, y1, y2, y3⟩ := (h k).mp ⟨x, hx, e⟩
    exact List.mem_map.mpr ⟨y, List.mem_filter.mpr ⟨List.mem_range.mpr y1, y2⟩, y3⟩)
  have e2 := sub_len h2 (l' := l.map c) (fun k hk => by
    obtain ⟨x, hx, e⟩ := List.mem_map.mp hk
    have a := List.mem_filter.mp hx
    obtain ⟨y, y1, y2⟩ := (h k).mpr ⟨x, List.mem_range.mp a.1, a.2, e⟩
    exact List.mem_map.mpr ⟨y, y1, y2⟩)
  rw [List.length_map, List.length_map] at e1 e2
  omega
theorem AMod_nodup {w : World} {t N r : Nat} {ρ c : Nat → Nat} {Lc : Nat → List Nat} (h : AMod w t N ρ c Lc) (hr : r < 10) : (Lc r).Nodup := (h.2.2.2.2.2 r hr).imp (fun {a b} hab e => by subst e; exact absurd hab (Nat.lt_irrefl _))
theorem AMod_cinj {w : World} {t N r x y : Nat} {ρ c : Nat → Nat} {Lc : Nat → List Nat} (h : AMod w t N ρ c Lc) (hr : r < 10) (hx : x ∈ Lc r) (hy : y ∈ Lc r) (e : c x = c y) : x = y := by
  have a := (h.2.2.2.1 r x hr).mp hx
  have b := (h.2.2.2.1 r y hr).mp hy
  refine Classical.byContradiction fun hne => ?_
  exact AMod_key h a.1 b.1 (by omega) hne (by rw [e])
theorem tuplesOf_n {w : World} {t N r : Nat} {ρ c : Nat → Nat} {Lc : Nat → List Nat} (h : AMod w t N ρ c Lc) (hr : r < 10) : f_Mo_tuplesOf w t (r : Int) = some ((Lc r).length : Int) := by
  have hlen := h.len hr
  have h48 := h.2.1
  have loop : ∀ (l : List Nat) (s : Int) (i : Nat), seg (w (t + 2)) s l → i + l.length ≤ 48 → (∀ x, x ∈ l → x < 48) → f_Mo_tuplesOf_11 w t s (i : Int) (i : Int) = some ((i + l.length : Nat) : Int) := by
    intro l
    induction l with
    | nil =>
      intro s i hs hi _
      have hs : s = -1 := hs
      subst hs
      unfold f_Mo_tuplesOf_11
      refine lp_out ?_
      show f_Mo_tuplesOf_11B w t (-1) (i : Int) (i : Int) = _
      unfold f_Mo_tuplesOf_11B
      split
      · rfl
      · rfl
    | cons a l ih =>
      intro s i hs hi hx
      obtain ⟨rfl, hs2⟩ := hs
      rw [List.length_cons] at hi ⊢
      have ha := hx a List.mem_cons_self
      have e := ih _ (i + 1) hs2 (by omega) (fun x hm => hx x (List.mem_cons_of_mem _ hm))
      have step : f_Mo_tuplesOf_11 w t (a : Int) (i : Int) (i : Int) = f_Mo_tuplesOf_11 w t (w (t + 2) a) ((i + 1 : Nat) : Int) ((i + 1 : Nat) : Int) := by
        unfold f_Mo_tuplesOf_11
        refine lp_step (s := ((a : Int), (i : Int), (i : Int))) ?_
        show f_Mo_tuplesOf_11B w t (a : Int) (i : Int) (i : Int) = _
        unfold f_Mo_tuplesOf_11B
        rw [if_neg (by omega), if_neg (by omega), bl_s, nextOf_n ha, bnd_s, bl_s, wr_of (x := (i : Int) + 1) ⟨by omega, by omega⟩]
        rfl
      rw [step, e]
      congr 1
      omega
  unfold f_Mo_tuplesOf
  rw [firstOf_n hr, bnd_s]
  have := loop (Lc r) _ 0 (h.2.2.1 r hr) (by omega) (fun x hx => by have := (h.2.2.2.1 r x hr).mp hx; omega)
  rw [Nat.zero_add] at this
  exact this
theorem sizeOf_n {w : World} {M n : Nat} {ρ c : Nat → Nat} {r : Nat} (hB : BMod w M n ρ c) (h1 : w 1 1 = (M : Int)) : f_Re_sizeOf w (r : Int) = some ((cnt (fun s => decide (ρ s = r)) n : Nat) : Int) := by
  obtain ⟨hM, hn, h49, hsl, -⟩ := hB
  have h := lp_go (F := fun z : (Int × Int) => f_Re_sizeOf_4B w (r : Int) z.1 z.2) (fun i => (((cnt (fun s => decide (ρ s = r)) i : Nat) : Int), (i : Int))) ((cnt (fun s => decide (ρ s = r)) n : Nat) : Int) n (fun i hi => by
    show f_Re_sizeOf_4B w (r : Int) ((cnt (fun s => decide (ρ s = r)) i : Nat) : Int) (i : Int) = some (Sum.inl (((cnt (fun s => decide (ρ s = r)) i + _ : Nat) : Int), ((i + 1 : Nat) : Int)))
    have hle := cnt_le (P := fun s => decide (ρ s = r)) i
    obtain ⟨a1, a2, -⟩ := hsl i hi
    have e0 : wr ((wr (50 * (M : Int))) + (i : Int)) = ((50 * M + i : Nat) : Int) := by
      rw [wr_of (x := 50 * (M : Int)) ⟨by omega, by omega⟩, wr_of (x := 50 * (M : Int) + (i : Int)) ⟨by omega, by omega⟩]; omega
    unfold f_Re_sizeOf_4B f_Re_sizeOf_41
    rw [h1, gd_t ⟨by omega, by omega⟩, Int.toNat_natCast, hn, if_neg (by omega), e0, gd_t ⟨by omega, by omega⟩, Int.toNat_natCast, a2]
    by_cases q : ρ i = r
    · rw [if_pos (by omega), if_pos (decide_eq_true q), bl_s, bl_s, wr_of (x := ((cnt (fun s => decide (ρ s = r)) i : Nat) : Int) + 1) ⟨by omega, by omega⟩, wr_of (x := (i : Int) + 1) ⟨by omega, by omega⟩]
      rfl
    · rw [if_neg (by omega), if_neg (by simpa using q), bl_s, bl_s, wr_of (x := ((cnt (fun s => decide (ρ s = r)) i : Nat) : Int) + 0) ⟨by omega, by omega⟩, wr_of (x := (i : Int) + 1) ⟨by omega, by omega⟩]
      rfl) (by
    show f_Re_sizeOf_4B w (r : Int) ((cnt (fun s => decide (ρ s = r)) n : Nat) : Int) (n : Int) = _
    unfold f_Re_sizeOf_4B
    rw [h1, gd_t ⟨by omega, by omega⟩, Int.toNat_natCast, hn, if_pos (Int.le_refl _)])
  exact h
/-- the chain of a relation and the reference's places are for the same tuples -/
theorem rows_same {wA wB : World} {t M N n r : Nat} {ρ c ρ' c' : Nat → Nat} {Lc : Nat → List Nat} (hA : AMod wA t N ρ c Lc) (hB : BMod wB M n ρ' c') (hs : ∀ r k, AM N ρ c r k ↔ AM n ρ' c' r k) (hr : r < 10) (P : Nat → Prop) [DecidablePred P] : ((Lc r).filter (fun x => decide (P (c x)))).length = cnt (fun s => decide (ρ' s = r) && decide (P (c' s))) n := by
  refine rows_len (c := c) (c' := c') (List.Pairwise.filter _ (AMod_nodup hA hr)) (fun x y hx hy e => AMod_cinj hA hr (List.mem_filter.mp hx).1 (List.mem_filter.mp hy).1 e) (fun x y hx hy px py e => ?_) (fun k => ?_)
  · simp only [Bool.and_eq_true, decide_eq_true_eq] at px py
    refine Classical.byContradiction fun hne => ?_
    exact hB.2.2.2.2 x y hx hy hne (by rw [px.1, py.1]) (by rw [e])
  · constructor
    · rintro ⟨x, hx, rfl⟩
      have h1 := List.mem_filter.mp hx
      have h2 := (hA.2.2.2.1 r x hr).mp h1.1
      obtain ⟨s, s1, s2, s3⟩ := (hs (r : Int) (c x)).mp ⟨x, h2.1, by rw [h2.2], rfl⟩
      have h3 : P (c x) := of_decide_eq_true h1.2
      refine ⟨s, s1, ?_, s3⟩
      rw [Bool.and_eq_true, decide_eq_true_eq, decide_eq_true_eq, s3]
      exact ⟨by omega, h3⟩
    · rintro ⟨s, s1, s2, rfl⟩
      rw [Bool.and_eq_true, decide_eq_true_eq, decide_eq_true_eq] at s2
      obtain ⟨x, x1, x2, x3⟩ := (hs (r : Int) (c' s)).mpr ⟨s, s1, by rw [s2.1], rfl⟩
      refine ⟨x, List.mem_filter.mpr ⟨(hA.2.2.2.1 r x hr).mpr ⟨x1, by omega⟩, ?_⟩, x3⟩
      rw [decide_eq_true_eq, x3]
      exact s2.2
theorem size_same {wA wB : World} {t M N n r : Nat} {ρ c ρ' c' : Nat → Nat} {Lc : Nat → List Nat} (hA : AMod wA t N ρ c Lc) (hB : BMod wB M n ρ' c') (hs : ∀ r k, AM N ρ c r k ↔ AM n ρ' c' r k) (hr : r < 10) : (Lc r).length = cnt (fun s => decide (ρ' s = r)) n := by
  have h := rows_same hA hB hs hr (fun _ => True)
  have e1 : (Lc r).filter (fun x => decide True) = Lc r := by simp
  have e2 : (fun s => decide (ρ' s = r) && decide True) = (fun s => decide (ρ' s = r)) := funext fun s => by simp
  rw [e1, e2] at h
  exact h
theorem st_size : St_size II := by
  intro wA wB hII x1 _
  obtain ⟨nF, m, d, now, top, L, g, hI⟩ := hII
  obtain ⟨i1, i2, i3, i4, i5, i6, i7, i8, i9, i10, i11⟩ := id hI
  unfold f_Dm_size f_Re_size
  rcases decl_both i1 x1 with ⟨r, rfl, hr, hd, hA, hB⟩ | ⟨-, hA, hB⟩
  · obtain ⟨N, ρ, c, Lc, n, ρ', c', a1, a2, a3, a4, a5, a6, a7, a8, a9⟩ := i9 now i6.2.2
    have hs := same_hour hI a4 a8
    have a5' : BMod (up wB 1 0 0) now n ρ' c' := BMod_congr (fun k hk => up10 (by omega)) a5
    refine ⟨(wA, 0, ((Lc r).length : Int)), (up wB 1 0 0, ((Lc r).length : Int)), ?_, ?_, thrown_n, Or.inl rfl, fun _ => rfl, nF, m, d, now, top, L, g, Inv_up10 hI⟩
    · rw [hA, bnd_s, if_neg z10, present_n i8 i6.2.2 i6.1, bnd_s, gd_t (kd_ref i8 (by omega)), tuplesOf_n a1 hr, bnd_s]
    · rw [noRel_n.1 hB, bnd_s, if_pos rfl, sizeOf_n a5' (by rw [up10_f (by decide)]; exact i6.2.1), bnd_s, size_same a1 a5 hs hr]
  · refine ⟨(wA, 1, 0), (up wB 1 0 1, 0), ?_, ?_, thrown_n, Or.inr rfl, fun e => n10 e, nF, m, d, now, top, L, g, Inv_up10 hI⟩
    · rw [hA, bnd_s, if_pos rfl]
    · rw [noRel_n.2 hB, bnd_s]
      exact if_neg z10
/-! at -/
theorem slotAt_n {w : World} {t N r : Nat} {ρ c : Nat → Nat} {Lc : Nat → List Nat} {x : Int} (h : AMod w t N ρ c Lc) (hr : r < 10) : (∃ p : Nat, x = (p : Int) ∧ ∃ hp : p < (Lc r).length, f_Mo_slotAt w t (r : Int) x = some (((Lc r)[p] : Nat) : Int)) ∨ ((∀ p : Nat, x = (p : Int) → (Lc r).length ≤ p) ∧ f_Mo_slotAt w t (r : Int) x = some (-1)) := by
  have hlen := h.len hr
  have h48 := h.2.1
  have none' : ∀ (p i : Nat), f_Mo_slotAt_23 w t (p : Int) (-1) (i : Int) = some (-1) := fun p i => by
    unfold f_Mo_slotAt_23
    refine lp_out ?_
    show f_Mo_slotAt_23B w t (p : Int) (-1) (i : Int) = _
    unfold f_Mo_slotAt_23B
    split
    · rfl
    · split
      · rfl
      · rfl
  have loop : ∀ (l : List Nat) (s : Int) (i p : Nat), seg (w (t + 2)) s l → i + l.length ≤ 48 → (∀ x, x ∈ l → x < 48) → i ≤ p → p < 48 → (∃ hp : p - i < l.length, f_Mo_slotAt_23 w t (p : Int) s (i : Int) = some ((l[p - i] : Nat) : Int)) ∨ (l.length ≤ p - i ∧ f_Mo_slotAt_23 w t (p : Int) s (i : Int) = some (-1)) := by
    intro l
    induction l with
    | nil =>
      intro s i p hs hi _ hip hp
      have hs : s = -1 := hs
      subst hs
      exact Or.inr ⟨Nat.zero_le _, none' p i⟩
    | cons a l ih =>
      intro s i p hs hi hx hip hp
      obtain ⟨rfl, hs2⟩ := hs
      rw [List.length_cons] at hi
      have ha := hx a List.mem_cons_self
      by_cases e : p = i
      · subst e
        refine Or.inl ⟨by simp, ?_⟩
        unfold f_Mo_slotAt_23
        refine lp_out ?_
        show f_Mo_slotAt_23B w t (p : Int) (a : Int) (p : Int) = _
        unfold f_Mo_slotAt_23B
        rw [if_pos (Int.le_refl _)]
        simp
      · have step : f_Mo_slotAt_23 w t (p : Int) (a : Int) (i : Int) = f_Mo_slotAt_23 w t (p : Int) (w (t + 2) a) ((i + 1 : Nat) : Int) := by
          unfold f_Mo_slotAt_23
          refine lp_step (s := ((a : Int), (i : Int))) ?_
          show f_Mo_slotAt_23B w t (p : Int) (a : Int) (i : Int) = _
          unfold f_Mo_slotAt_23B
          rw [if_neg (by omega), if_neg (by omega), if_neg (by omega), nextOf_n ha, bnd_s, bl_s, wr_of (x := (i : Int) + 1) ⟨by omega, by omega⟩]
          rfl
        rw [step]
        have e2 : p - i = (p - (i + 1)) + 1 := by omega
        rcases ih _ (i + 1) p hs2 (by omega) (fun x hm => hx x (List.mem_cons_of_mem _ hm)) (by omega) hp with ⟨hp', h1⟩ | ⟨h1, h2⟩
        · refine Or.inl ⟨by rw [List.length_cons]; omega, ?_⟩
          rw [h1]
          simp only [e2, List.getElem_cons_succ]
        · refine Or.inr ⟨by rw [List.length_cons]; omega, h2⟩
  unfold f_Mo_slotAt f_Mo_slotAt_10 f_Mo_slotAt_19
  by_cases q1 : x < 0
  · rw [if_pos q1]
    refine Or.inr ⟨fun p hp => by omega, ?_⟩
    unfold f_Mo_slotAt_23
    refine lp_out ?_
    show f_Mo_slotAt_23B w t x (-1) 0 = _
    unfold f_Mo_slotAt_23B
    rw [if_pos (by omega)]
  · rw [if_neg q1]
    obtain ⟨p, rfl⟩ : ∃ p : Nat, x = (p : Int) := ⟨x.toNat, by omega⟩
    by_cases q2 : (p : Int) < 48
    · rw [if_pos q2, firstOf_n hr, bnd_s]
      rcases loop (Lc r) _ 0 p (h.2.2.1 r hr) (by omega) (fun x hx => by have := (h.2.2.2.1 r x hr).mp hx; omega) (Nat.zero_le _) (by omega) with ⟨hp, h1⟩ | ⟨h1, h2⟩
      · exact Or.inl ⟨p, rfl, hp, h1⟩
      · exact Or.inr ⟨fun p' hp' => by omega, h2⟩
    · rw [if_neg q2]
      exact Or.inr ⟨fun p' hp' => by omega, none' p 0⟩
/-- a chain's tuples rise -/
theorem chain_lt {w : World} {t N r : Nat} {ρ c : Nat → Nat} {Lc : Nat → List Nat} (hS : WfS w) (h : AMod w t N ρ c Lc) (hV : VCs w N ρ c) (hr : r < 10) (hd : 1 ≤ w 3 r) : (Lc r).Pairwise (fun a b => c a < c b) := by
  refine (h.2.2.2.2.2 r hr).imp_of_mem (fun {a b} ha hb hab => ?_)
  have ha := (h.2.2.2.1 r a hr).mp ha
  have hb := (h.2.2.2.1 r b hr).mp hb
  have va := hV a ha.1
  have vb := hV b hb.1
  rw [ha.2] at va
  rw [hb.2] at vb
  have h3 := (hS r hr).1
  have e1 : ∀ n, clm n 1 = n / 128 % 128 := fun _ => rfl
  have e2 : ∀ n, clm n 2 = n % 128 := fun _ => rfl
  have hD := hS.D
  rcases kq_cases hD (r := (r : Int)) (by rw [SA_co hr]; omega) with ⟨-, hq⟩ | ⟨-, hq, hk⟩
  · rw [hq] at hab
    exact hab
  · rw [hq] at hab
    rw [SA_co hr] at hk hab
    rcases hk with k | k | k
    · have a1 := va 1 (by omega) (by omega); have a2 := va 2 (by omega) (by omega)
      have b1 := vb 1 (by omega) (by omega); have b2 := vb 2 (by omega) (by omega)
      rw [e1] at a1 b1
      rw [e2] at a2 b2
      rw [k] at hab
      have hab : c a % 16384 < c b % 16384 := hab
      omega
    · have a2 := va 2 (by omega) (by omega)
      have b2 := vb 2 (by omega) (by omega)
      rw [e2] at a2 b2
      rw [k] at hab
      have hab : c a / 16384 * 16384 + c a % 128 < c b / 16384 * 16384 + c b % 128 := hab
      omega
    · rw [k] at hab
      have hab : c a / 128 * 128 < c b / 128 * 128 := hab
      omega
/-- in a rising row as many are below a member as come ahead of it -/
theorem below_len {c : Nat → Nat} : ∀ (l : List Nat), l.Pairwise (fun a b => c a < c b) → ∀ (p : Nat) (hp : p < l.length), (l.filter (fun x => decide (c x < c l[p]))).length = p := by
  intro l
  induction l with
  | nil => intro _ p hp; exact absurd hp (by simp)
  | cons a l ih =>
    intro h p hp
    have h1 := (List.pairwise_cons.mp h).1
    have h2 := (List.pairwise_cons.mp h).2
    cases p with
    | zero =>
      rw [List.length_eq_zero_iff, List.filter_eq_nil_iff]
      intro x hx
      simp only [List.getElem_cons_zero, decide_eq_true_eq]
      rcases List.mem_cons.mp hx with e | hx
      · rw [e]; omega
      · have := h1 x hx; omega
    | succ p =>
      have hp' : p < l.length := by simpa using hp
      have e : (a :: l)[p + 1] = l[p] := List.getElem_cons_succ ..
      rw [e, List.filter_cons, if_pos (by simpa using h1 _ (List.getElem_mem hp')), List.length_cons, ih h2 p hp']
theorem told_n {w : World} {M n s : Nat} {ρ c : Nat → Nat} (hB : BMod w M n ρ c) (h1 : w 1 1 = (M : Int)) (hs : s < n) : f_Re_told w (s : Int) = some (c s : Int) := by
  obtain ⟨hM, hn, h49, hsl, -⟩ := hB
  obtain ⟨a1, a2, a3, a4, a5⟩ := hsl s hs
  have i0 : wr (3 * (wr ((wr (50 * (M : Int))) + (s : Int)))) = ((3 * (50 * M + s) + 0 : Nat) : Int) := by
    rw [wr_of (x := 50 * (M : Int)) ⟨by omega, by omega⟩, wr_of (x := 50 * (M : Int) + (s : Int)) ⟨by omega, by omega⟩, wr_of (x := 3 * (50 * (M : Int) + (s : Int))) ⟨by omega, by omega⟩]
    omega
  have i1 : wr (((3 * (50 * M + s) + 0 : Nat) : Int) + 1) = ((3 * (50 * M + s) + 1 : Nat) : Int) := by rw [wr_of (x := ((3 * (50 * M + s) + 0 : Nat) : Int) + 1) ⟨by omega, by omega⟩]; omega
  have i2 : wr (((3 * (50 * M + s) + 0 : Nat) : Int) + 2) = ((3 * (50 * M + s) + 2 : Nat) : Int) := by rw [wr_of (x := ((3 * (50 * M + s) + 0 : Nat) : Int) + 2) ⟨by omega, by omega⟩]; omega
  have l0 := clm_lt (n := c s) (j := 0); have l1 := clm_lt (n := c s) (j := 1); have l2 := clm_lt (n := c s) (j := 2)
  have hp := clm_pk a4
  unfold pk at hp
  unfold f_Re_told
  rw [h1, i0, bl_s, gd_t ⟨by omega, by omega⟩, i1, gd_t ⟨by omega, by omega⟩, i2, gd_t ⟨by omega, by omega⟩, Int.toNat_natCast, Int.toNat_natCast, Int.toNat_natCast, a3 0 (by omega), a3 1 (by omega), a3 2 (by omega)]
  rw [wr_of (x := 16384 * ((clm (c s) 0 : Nat) : Int)) ⟨by omega, by omega⟩, wr_of (x := 128 * ((clm (c s) 1 : Nat) : Int)) ⟨by omega, by omega⟩, wr_of (x := 16384 * ((clm (c s) 0 : Nat) : Int) + 128 * ((clm (c s) 1 : Nat) : Int)) ⟨by omega, by omega⟩, wr_of (x := 16384 * ((clm (c s) 0 : Nat) : Int) + 128 * ((clm (c s) 1 : Nat) : Int) + ((clm (c s) 2 : Nat) : Int)) ⟨by omega, by omega⟩]
  congr 1
  omega
/-- the tuple that so many are below -/
theorem atB_n {w : World} {M n r p k0 : Nat} {ρ c : Nat → Nat} (hB : BMod w M n ρ c) (h1 : w 1 1 = (M : Int)) (hk : ∃ s, s < n ∧ ρ s = r ∧ c s = k0) (hb : cnt (fun s => decide (ρ s = r) && decide (c s < k0)) n = p) (hu : ∀ s, s < n → ρ s = r → cnt (fun j => decide (ρ j = r) && decide (c j < c s)) n = p → c s = k0) : f_Re_at_53 w (r : Int) (p : Int) 0 0 = some (w, (k0 : Int)) := by
  obtain ⟨hM, hn, h49, hsl, -⟩ := id hB
  have ix : ∀ i : Nat, i < 50 → wr ((wr (50 * (M : Int))) + (i : Int)) = ((50 * M + i : Nat) : Int) := fun i hi => by
    rw [wr_of (x := 50 * (M : Int)) ⟨by omega, by omega⟩, wr_of (x := 50 * (M : Int) + (i : Int)) ⟨by omega, by omega⟩]; omega
  have inner : ∀ (s : Nat) (x4 : Int), s < n → f_Re_at_73 w (r : Int) (p : Int) x4 (s : Int) 0 0 = some (Sum.inl (if ρ s = r ∧ cnt (fun j => decide (ρ j = r) && decide (c j < c s)) n = p then (c s : Int) else x4, ((s + 1 : Nat) : Int))) := fun s x4 hs => by
    have hg := lp_go (F := fun z : (Int × Int) => f_Re_at_73B w (r : Int) (p : Int) x4 (s : Int) z.1 z.2) (fun i => (((cnt (fun j => decide (ρ j = r) && decide (c j < c s)) i : Nat) : Int), (i : Int))) (Sum.inl (if ρ s = r ∧ cnt (fun j => decide (ρ j = r) && decide (c j < c s)) n = p then (c s : Int) else x4, ((s + 1 : Nat) : Int))) n (fun i hi => by
      show f_Re_at_73B w (r : Int) (p : Int) x4 (s : Int) ((cnt (fun j => decide (ρ j = r) && decide (c j < c s)) i : Nat) : Int) (i : Int) = some (Sum.inl (((cnt (fun j => decide (ρ j = r) && decide (c j < c s)) i + _ : Nat) : Int), ((i + 1 : Nat) : Int)))
      have hle := cnt_le (P := fun j => decide (ρ j = r) && decide (c j < c s)) i
      obtain ⟨a1, a2, -⟩ := hsl i hi
      have z : f_Re_at_128 w (r : Int) (p : Int) x4 (s : Int) (i : Int) ((cnt (fun j => decide (ρ j = r) && decide (c j < c s)) i : Nat) : Int) 0 = some (Sum.inl (((cnt (fun j => decide (ρ j = r) && decide (c j < c s)) i : Nat) : Int), ((i + 1 : Nat) : Int))) := by
        unfold f_Re_at_128
        rw [bl_s, bl_s, wr_of (x := ((cnt (fun j => decide (ρ j = r) && decide (c j < c s)) i : Nat) : Int) + 0) ⟨by omega, by omega⟩, wr_of (x := (i : Int) + 1) ⟨by omega, by omega⟩]
        rw [Int.add_zero]
        rfl
      unfold f_Re_at_73B f_Re_at_127
      rw [h1, gd_t ⟨by omega, by omega⟩, Int.toNat_natCast, hn, if_neg (by omega), ix i (by omega), gd_t ⟨by omega, by omega⟩, Int.toNat_natCast, a2]
      by_cases q : ρ i = r
      · rw [if_pos (by omega), told_n hB h1 hi, bnd_s, told_n hB h1 hs, bnd_s]
        by_cases q2 : c i < c s
        · rw [if_neg (by omega), if_pos (by simp [q, q2])]
          unfold f_Re_at_128
          rw [bl_s, bl_s, wr_of (x := ((cnt (fun j => decide (ρ j = r) && decide (c j < c s)) i : Nat) : Int) + 1) ⟨by omega, by omega⟩, wr_of (x := (i : Int) + 1) ⟨by omega, by omega⟩]
          rfl
        · rw [if_pos (by omega), if_neg (by simp [q2]), z]
          rfl
      · rw [if_neg (by omega), if_neg (by simp [q]), z]
        rfl) (by
      show f_Re_at_73B w (r : Int) (p : Int) x4 (s : Int) ((cnt (fun j => decide (ρ j = r) && decide (c j < c s)) n : Nat) : Int) (n : Int) = _
      obtain ⟨a1, a2, -⟩ := hsl s hs
      unfold f_Re_at_73B f_Re_at_171 f_Re_at_173
      rw [h1, gd_t ⟨by omega, by omega⟩, Int.toNat_natCast, hn, if_pos (Int.le_refl _), ix s (by omega), gd_t ⟨by omega, by omega⟩, Int.toNat_natCast, a2]
      by_cases q : ρ s = r
      · rw [if_pos (by omega)]
        by_cases q2 : cnt (fun j => decide (ρ j = r) && decide (c j < c s)) n = p
        · rw [if_pos (by omega), told_n hB h1 hs, bnd_s, bl_s, bnd_s, wr_of (x := (s : Int) + 1) ⟨by omega, by omega⟩, if_pos ⟨q, q2⟩]
          rfl
        · rw [if_neg (by omega), bl_s, bnd_s, wr_of (x := (s : Int) + 1) ⟨by omega, by omega⟩, if_neg (fun z => q2 z.2)]
          rfl
      · rw [if_neg (by omega), bl_s, bnd_s, wr_of (x := (s : Int) + 1) ⟨by omega, by omega⟩, if_neg (fun z => q z.1)]
        rfl)
    exact hg
  obtain ⟨s0, s1, s2, s3⟩ := hk
  have loop : ∀ (j k : Nat) (x4 : Int), k + j = n → (s0 < k → x4 = (k0 : Int)) → f_Re_at_53 w (r : Int) (p : Int) x4 (k : Int) = some (w, (k0 : Int)) := by
    intro j
    induction j with
    | zero =>
      intro k x4 hk hx
      unfold f_Re_at_53
      refine lp_out ?_
      show f_Re_at_53B w (r : Int) (p : Int) x4 (k : Int) = _
      unfold f_Re_at_53B
      rw [h1, gd_t ⟨by omega, by omega⟩, Int.toNat_natCast, hn, if_pos (by omega), hx (by omega)]
    | succ j ih =>
      intro k x4 hk hx
      have e := inner k x4 (by omega)
      rw [← ih (k + 1) (if ρ k = r ∧ cnt (fun j => decide (ρ j = r) && decide (c j < c k)) n = p then (c k : Int) else x4) (by omega) (fun hlt => by
        by_cases q : ρ k = r ∧ cnt (fun j => decide (ρ j = r) && decide (c j < c k)) n = p
        · rw [if_pos q, hu k (by omega) q.1 q.2]
        · rw [if_neg q]
          refine hx ?_
          refine Classical.byContradiction fun hn2 => q ?_
          have : k = s0 := by omega
          subst this
          exact ⟨s2, by rw [s3]; exact hb⟩)]
      unfold f_Re_at_53
      refine lp_step (s := (x4, (k : Int))) ?_
      show f_Re_at_53B w (r : Int) (p : Int) x4 (k : Int) = _
      unfold f_Re_at_53B
      rw [h1, gd_t ⟨by omega, by omega⟩, Int.toNat_natCast, hn, if_neg (by omega), e]
  exact loop n 0 0 (by omega) (fun h => absurd h (by omega))
theorem st_at : St_at II := by
  intro wA wB hII x1 x2 _ hx2
  obtain ⟨nF, m, d, now, top, L, g, hI⟩ := hII
  obtain ⟨i1, i2, i3, i4, i5, i6, i7, i8, i9, i10, i11⟩ := id hI
  unfold f_Dm_at f_Re_at f_Re_at_27 f_Re_at_28
  have no : f_Re_at_39 wB x1 x2 1 = some (up wB 1 0 1, 0) := by
    unfold f_Re_at_39
    rw [refused_n, bnd_s]
    show (if (if (1 : Int) = 0 then (0 : Int) else 1) = 0 then _ else some (up wB 1 0 1, 0)) = _
    rw [if_neg z10, if_neg z10]
  rcases decl_both i1 x1 with ⟨r, rfl, hr, hd, hA, hB⟩ | ⟨-, hA, hB⟩
  · obtain ⟨N, ρ, c, Lc, n, ρ', c', a1, a2, a3, a4, a5, a6, a7, a8, a9⟩ := i9 now i6.2.2
    have hs := same_hour hI a4 a8
    have hsz := size_same a1 a5 hs hr
    have hlen := a1.len hr
    have h48 := a1.2.1
    have hAt : f_Dm_present wA = some (g now) := present_n i8 i6.2.2 i6.1
    have hkd := kd_ref i8 (k := now) (by omega)
    rcases slotAt_n (x := x2) a1 hr with ⟨p, rfl, hp, hsl⟩ | ⟨hno, hsl⟩
    · have a5' : BMod (up wB 1 0 0) now n ρ' c' := BMod_congr (fun k hk => up10 (by omega)) a5
      have hmem := (a1.2.2.2.1 r _ hr).mp (List.getElem_mem hp)
      have hslot := a1.2.2.2.2.1 _ hmem.1
      have hch := chain_lt i1.1 a1 a2 hr hd
      have hbel := below_len (Lc r) hch p hp
      have hr1 := rows_same a1 a5 hs hr (fun k => k < c (Lc r)[p])
      rw [hbel] at hr1
      obtain ⟨s0, s1, s2, s3⟩ := (hs (r : Int) (c (Lc r)[p])).mp ⟨_, hmem.1, by rw [hmem.2], rfl⟩
      refine ⟨(wA, 0, (c (Lc r)[p] : Int)), (up wB 1 0 0, (c (Lc r)[p] : Int)), ?_, ?_, thrown_n, Or.inl rfl, fun _ => rfl, nF, m, d, now, top, L, g, Inv_up10 hI⟩
      · unfold f_Dm_at_24
        rw [hA, bnd_s, if_neg z10, hAt, bnd_s, gd_t hkd, hsl, bnd_s, if_neg (by omega), bnd_s, gd_t hkd, codeOf_n (by omega), bnd_s, hslot.2.1]
      · rw [hB, bnd_s, if_neg z10, sizeOf_n a5 i6.2.1, bnd_s, ← hsz, wr_of (x := ((Lc r).length : Int) - 1) ⟨by omega, by omega⟩, inB_n, bnd_s, if_pos (show (0 : Int) ≤ (p : Int) ∧ (p : Int) ≤ ((Lc r).length : Int) - 1 from ⟨by omega, by omega⟩), if_neg z10]
        unfold f_Re_at_39
        rw [if_neg z10, refused_n, bnd_s]
        show (if (if (0 : Int) = 0 then (0 : Int) else 1) = 0 then f_Re_at_53 (up wB 1 0 0) (r : Int) (p : Int) 0 0 else _) = _
        rw [if_pos (if_pos rfl)]
        refine atB_n a5' (by rw [up10_f (by decide)]; exact i6.2.1) ⟨s0, s1, by omega, s3⟩ hr1.symm (fun s hs1 hs2 hs3 => ?_)
        obtain ⟨x, x1, x2, x3⟩ := (hs (r : Int) (c' s)).mpr ⟨s, hs1, by rw [hs2], rfl⟩
        have hxm := (a1.2.2.2.1 r x hr).mpr ⟨x1, by omega⟩
        obtain ⟨p', hp', ep'⟩ := List.getElem_of_mem hxm
        have hb' := below_len (Lc r) hch p' hp'
        have hr' := rows_same a1 a5 hs hr (fun k => k < c (Lc r)[p'])
        rw [hb', ep', x3, hs3] at hr'
        subst hr'
        rw [ep', x3]
    · have no : f_Re_at_39 wB (r : Int) x2 1 = some (up wB 1 0 1, 0) := no
      refine ⟨(wA, 1, 0), (up wB 1 0 1, 0), ?_, ?_, thrown_n, Or.inr rfl, fun e => n10 e, nF, m, d, now, top, L, g, Inv_up10 hI⟩
      · unfold f_Dm_at_24
        rw [hA, bnd_s, if_neg z10, hAt, bnd_s, gd_t hkd, hsl, bnd_s, if_pos rfl]
      · rw [hB, bnd_s, if_neg z10, sizeOf_n a5 i6.2.1, bnd_s, ← hsz, wr_of (x := ((Lc r).length : Int) - 1) ⟨by omega, by omega⟩, inB_n, bnd_s, if_neg (show ¬ ((0 : Int) ≤ x2 ∧ x2 ≤ ((Lc r).length : Int) - 1) from fun z => by have := hno x2.toNat (by omega); omega), if_pos rfl, if_pos rfl, no]
  · refine ⟨(wA, 1, 0), (up wB 1 0 1, 0), ?_, ?_, thrown_n, Or.inr rfl, fun e => n10 e, nF, m, d, now, top, L, g, Inv_up10 hI⟩
    · unfold f_Dm_at_24
      rw [hA, bnd_s, if_pos rfl, if_pos rfl]
    · rw [hB, bnd_s, if_pos rfl, if_pos rfl, no]
