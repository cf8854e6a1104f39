/-! THE CLASS'S MODELS: a chain of slots for each relation -/
def SA (w : World) : SH := (fun r => if 0 ≤ r ∧ r < 10 then (w 3 r.toNat).toNat else 0, fun r => if 0 ≤ r ∧ r < 10 then (w 4 r.toNat).toNat else 0, fun r => if 0 ≤ r ∧ r < 10 then (w 5 r.toNat).toNat else 0)
theorem SA_co {w : World} {r : Nat} (h : r < 10) : (SA w).co (r : Int) = (w 3 r).toNat := by
  show (if 0 ≤ (r : Int) ∧ (r : Int) < 10 then (w 3 (r : Int).toNat).toNat else 0) = _
  rw [if_pos (by omega), Int.toNat_natCast]
theorem SA_ki {w : World} {r : Nat} (h : r < 10) : (SA w).ki (r : Int) = (w 4 r).toNat := by
  show (if 0 ≤ (r : Int) ∧ (r : Int) < 10 then (w 4 (r : Int).toNat).toNat else 0) = _
  rw [if_pos (by omega), Int.toNat_natCast]
theorem SA_ky {w : World} {r : Nat} (h : r < 10) : (SA w).ky (r : Int) = (w 5 r).toNat := by
  show (if 0 ≤ (r : Int) ∧ (r : Int) < 10 then (w 5 (r : Int).toNat).toNat else 0) = _
  rw [if_pos (by omega), Int.toNat_natCast]
/-- the schema as it may be -/
def WfS (w : World) : Prop := ∀ r : Nat, r < 10 → (0 ≤ w 3 r ∧ w 3 r ≤ 3) ∧ (0 ≤ w 4 r ∧ w 4 r ≤ 3) ∧ (0 ≤ w 5 r ∧ w 5 r ≤ 3) ∧ (1 ≤ w 3 r → w 6 r = mk4 ((SA w).kq r) ∧ (w 4 r = 0 → 1 ≤ w 5 r ∧ w 5 r ≤ w 3 r) ∧ (w 4 r ≠ 0 → w 5 r = w 3 r - 1)) ∧ (w 3 r = 0 → w 4 r = 0 ∧ w 5 r = 0)
theorem WfS.D {w : World} (h : WfS w) : WfD (SA w) := by
  intro r
  by_cases hr : 0 ≤ r ∧ r < 10
  · have h1 := h r.toNat (by omega)
    have e : r = (r.toNat : Int) := by omega
    rw [e, SA_co (by omega), SA_ki (by omega)]
    omega
  · show (if 0 ≤ r ∧ r < 10 then (w 3 r.toNat).toNat else 0) ≤ 3 ∧ (if 0 ≤ r ∧ r < 10 then (w 4 r.toNat).toNat else 0) ≤ 3
    rw [if_neg hr, if_neg hr]
    omega
theorem SA_kq4 {w : World} (h : WfS w) {r : Int} : (SA w).kq r < 4 := by
  unfold SH.kq
  split
  · omega
  · have := (h.D r).1; omega
theorem columnsOf_n {w : World} {r : Nat} (h : r < 10) : f_Sc_columnsOf w (r : Int) = some (w 3 r) := by
  unfold f_Sc_columnsOf
  rw [if_neg (by omega), if_neg (by omega), gd_t ⟨by omega, by omega⟩, Int.toNat_natCast]
theorem kindOf_n {w : World} {r : Nat} (h : r < 10) : f_Sc_kindOf w (r : Int) = some (w 4 r) := by
  unfold f_Sc_kindOf
  rw [if_neg (by omega), if_neg (by omega), gd_t ⟨by omega, by omega⟩, Int.toNat_natCast]
theorem keyOf_n {w : World} {r : Nat} (h : r < 10) : f_Sc_keyOf w (r : Int) = some (w 5 r) := by
  unfold f_Sc_keyOf
  rw [if_neg (by omega), if_neg (by omega), gd_t ⟨by omega, by omega⟩, Int.toNat_natCast]
theorem tellingBits_n {w : World} {r : Nat} (h : r < 10) : f_Sc_tellingBits w (r : Int) = some (w 6 r) := by
  unfold f_Sc_tellingBits
  rw [if_neg (by omega), if_neg (by omega), gd_t ⟨by omega, by omega⟩, Int.toNat_natCast]
theorem firstOf_n {w : World} {t r : Nat} (h : r < 10) : f_Mo_firstOf w t (r : Int) = some (w (t + 1) r) := by
  unfold f_Mo_firstOf
  rw [if_neg (by omega), if_neg (by omega), gd_t ⟨by omega, by omega⟩, Int.toNat_natCast]
theorem nextOf_n {w : World} {t s : Nat} (h : s < 48) : f_Mo_nextOf w t (s : Int) = some (w (t + 2) s) := by
  unfold f_Mo_nextOf
  rw [if_neg (by omega), if_neg (by omega), gd_t ⟨by omega, by omega⟩, Int.toNat_natCast]
theorem codeOf_n {w : World} {t s : Nat} (h : s < 48) : f_Mo_codeOf w t (s : Int) = some (w (t + 3) s) := by
  unfold f_Mo_codeOf
  rw [if_neg (by omega), if_neg (by omega), gd_t ⟨by omega, by omega⟩, Int.toNat_natCast]
theorem roundOf_n {w : World} {t s : Nat} (h : s < 48) : f_Mo_roundOf w t (s : Int) = some (w (t + 4) s) := by
  unfold f_Mo_roundOf
  rw [if_neg (by omega), if_neg (by omega), gd_t ⟨by omega, by omega⟩, Int.toNat_natCast]
def seg (nx : Nat → Int) : Int → List Nat → Prop
  | s, [] => s = -1
  | s, a :: l => s = (a : Int) ∧ seg nx (nx a) l
theorem nodup_len : ∀ (n : Nat) (l : List Nat), l.Nodup → (∀ x, x ∈ l → x < n) → l.length ≤ n := by
  intro n
  induction n with
  | zero =>
    intro l _ h
    cases l with
    | nil => exact Nat.le_refl _
    | cons a l => exact absurd (h a List.mem_cons_self) (by omega)
  | succ n ih =>
    intro l hn h
    have h1 := ih (l.erase n) (hn.erase n) (fun x hx => by
      have := (List.Nodup.mem_erase_iff hn).mp hx
      have h2 := h x this.2
      have h3 := this.1
      omega)
    by_cases hm : n ∈ l
    · rw [List.length_erase_of_mem hm] at h1
      omega
    · rw [List.erase_of_not_mem hm] at h1
      omega
/-- n slots; the relation and the tuple of a slot; the chain of a relation -/
def AMod (w : World) (t n : Nat) (ρ c : Nat → Nat) (L : Nat → List Nat) : Prop :=
  w t 1 = (n : Int) ∧ n ≤ 48 ∧ (∀ r, r < 10 → seg (w (t + 2)) (w (t + 1) r) (L r)) ∧ (∀ r s, r < 10 → (s ∈ L r ↔ s < n ∧ ρ s = r)) ∧
  (∀ s, s < n → ρ s < 10 ∧ w (t + 3) s = (c s : Int) ∧ c s < 2097152 ∧ 1 ≤ w 3 (ρ s)) ∧ ∀ r, r < 10 → (L r).Pairwise (fun a b => kz ((SA w).kq r) (c a) < kz ((SA w).kq r) (c b))
theorem AMod.len {w : World} {t n : Nat} {ρ c : Nat → Nat} {L : Nat → List Nat} (h : AMod w t n ρ c L) {r : Nat} (hr : r < 10) : (L r).length ≤ n := by
  obtain ⟨-, -, -, hm, -, hs⟩ := h
  refine nodup_len n (L r) ?_ (fun x hx => ((hm r x hr).mp hx).1)
  exact (hs r hr).imp (fun {a b} hab e => by subst e; exact absurd hab (Nat.lt_irrefl _))
theorem slotLike_loop {w : World} {t k n : Nat} {c : Nat → Nat} (hk : k < 4) (hn : n < 2097152) : ∀ (l : List Nat) (i : Nat) (s : Int), seg (w (t + 2)) s l → i + l.length ≤ 48 → (∀ x, x ∈ l → x < 48 ∧ w (t + 3) x = (c x : Int) ∧ c x < 2097152) → l.Pairwise (fun a b => kz k (c a) < kz k (c b)) →
    (∃ x, x ∈ l ∧ kz k (c x) = kz k n ∧ f_Mo_slotLike_19 w t (n : Int) (mk4 k) s (i : Int) = some (x : Int)) ∨ ((∀ x, x ∈ l → kz k (c x) ≠ kz k n) ∧ f_Mo_slotLike_19 w t (n : Int) (mk4 k) s (i : Int) = some (-1)) := by
  intro l
  induction l with
  | nil =>
    intro i s hs hi _ _
    have hs : s = -1 := hs
    subst hs
    refine Or.inr ⟨fun x hx => (by cases hx), ?_⟩
    unfold f_Mo_slotLike_19
    refine lp_out ?_
    show f_Mo_slotLike_19B w t (n : Int) (mk4 k) (-1) (i : Int) = _
    unfold f_Mo_slotLike_19B
    split
    · rfl
    · rfl
  | cons a l ih =>
    intro i s hs hi hx hp
    obtain ⟨rfl, hs2⟩ := hs
    have ha := hx a List.mem_cons_self
    rw [List.length_cons] at hi
    have hp1 := (List.pairwise_cons.mp hp).1
    have ih' := ih (i + 1) _ hs2 (by omega) (fun x hm => hx x (List.mem_cons_of_mem _ hm)) (List.pairwise_cons.mp hp).2
    have step : f_Mo_slotLike_19B w t (n : Int) (mk4 k) (a : Int) (i : Int) = if (kz k (c a) : Int) - (kz k n : Int) < 0 then some (Sum.inl (w (t + 2) a, (i : Int) + 1)) else if (kz k (c a) : Int) - (kz k n : Int) = 0 then some (Sum.inr (a : Int)) else some (Sum.inr (-1)) := by
      have h1 := kz_le (k := k) (n := c a)
      have h2 := kz_le (k := k) (n := n)
      unfold f_Mo_slotLike_19B
      rw [if_neg (by omega), if_neg (by omega), if_neg (by omega), gd_t ⟨by omega, by omega⟩, bl_s, Int.toNat_natCast, ha.2.1, iand_mk hk (by omega), iand_mk hk (by omega), wr_of (x := (kz k (c a) : Int) - (kz k n : Int)) ⟨by omega, by omega⟩]
      rw [gd_t ⟨by omega, by omega⟩, bl_s, bl_s, wr_of (x := (i : Int) + 1) ⟨by omega, by omega⟩]
    by_cases h1 : kz k (c a) < kz k n
    · rw [if_pos (by omega)] at step
      have e : f_Mo_slotLike_19 w t (n : Int) (mk4 k) (a : Int) (i : Int) = f_Mo_slotLike_19 w t (n : Int) (mk4 k) (w (t + 2) a) ((i + 1 : Nat) : Int) := by
        unfold f_Mo_slotLike_19
        exact lp_step (s' := (w (t + 2) a, ((i + 1 : Nat) : Int))) step
      rw [e]
      rcases ih' with ⟨x, hm, hz, he⟩ | ⟨hz, he⟩
      · exact Or.inl ⟨x, List.mem_cons_of_mem _ hm, hz, he⟩
      · refine Or.inr ⟨fun x hm => ?_, he⟩
        rcases List.mem_cons.mp hm with rfl | hm
        · omega
        · exact hz x hm
    · rw [if_neg (by omega)] at step
      by_cases h2 : kz k (c a) = kz k n
      · rw [if_pos (by omega)] at step
        refine Or.inl ⟨a, List.mem_cons_self, h2, ?_⟩
        unfold f_Mo_slotLike_19
        exact lp_out step
      · rw [if_neg (by omega)] at step
        refine Or.inr ⟨fun x hm => ?_, ?_⟩
        · rcases List.mem_cons.mp hm with rfl | hm
          · exact h2
          · have := hp1 x hm; omega
        · unfold f_Mo_slotLike_19
          exact lp_out step
/-- the slot with the same key, if there is one -/
theorem slotLike_n {w : World} {t n m r : Nat} {ρ c : Nat → Nat} {L : Nat → List Nat} (hS : WfS w) (h : AMod w t n ρ c L) (hr : r < 10) (hd : 1 ≤ w 3 r) (hm : m < 2097152) :
    (∃ x, x < n ∧ ρ x = r ∧ kz ((SA w).kq r) (c x) = kz ((SA w).kq r) m ∧ f_Mo_slotLike w t (r : Int) (m : Int) = some (x : Int)) ∨ ((∀ x, x < n → ρ x = r → kz ((SA w).kq r) (c x) ≠ kz ((SA w).kq r) m) ∧ f_Mo_slotLike w t (r : Int) (m : Int) = some (-1)) := by
  have hlen := h.len hr
  obtain ⟨-, h48, hseg, hmem, hsl, hsort⟩ := h
  have hb := ((hS r hr).2.2.2.1 hd).1
  have e : f_Mo_slotLike w t (r : Int) (m : Int) = f_Mo_slotLike_19 w t (m : Int) (mk4 ((SA w).kq r)) (w (t + 1) r) ((0 : Nat) : Int) := by
    unfold f_Mo_slotLike
    rw [tellingBits_n hr, bnd_s, firstOf_n hr, bnd_s, hb]
    rfl
  rw [e]
  rcases slotLike_loop (c := c) (SA_kq4 hS) hm (L r) 0 _ (hseg r hr) (by omega) (fun x hx => by
    have h1 := (hmem r x hr).mp hx
    have h2 := hsl x h1.1
    exact ⟨by omega, h2.2.1, h2.2.2.1⟩) (hsort r hr) with ⟨x, hx, hz, he⟩ | ⟨hz, he⟩
  · have h1 := (hmem r x hr).mp hx
    exact Or.inl ⟨x, h1.1, h1.2, hz, he⟩
  · exact Or.inr ⟨fun x hx hρ => hz x ((hmem r x hr).mpr ⟨hx, hρ⟩), he⟩
