/-! BOTH: keys broken; the class -/
def adjP (P : Nat → Nat → Prop) : List Nat → Prop
  | [] => False
  | a :: l => (match l with
    | [] => False
    | b :: _ => P a b) ∨ adjP P l
/-- equal beginnings stand side by side in a rising row -/
theorem adj_iff {c q : Nat → Nat} (hq : ∀ x y, x ≤ y → q x ≤ q y) : ∀ l : List Nat, l.Pairwise (fun a b => c a < c b) → (adjP (fun a b => q (c b) = q (c a)) l ↔ ∃ a b, a ∈ l ∧ b ∈ l ∧ c a < c b ∧ q (c a) = q (c b)) := by
  intro l
  induction l with
  | nil => intro _; exact ⟨fun h => h.elim, fun ⟨a, b, h, _⟩ => absurd h List.not_mem_nil⟩
  | cons a l ih =>
    intro hp
    obtain ⟨h1, h2⟩ := List.pairwise_cons.mp hp
    have ihl := ih h2
    cases l with
    | nil =>
      constructor
      · rintro (h | h)
        · exact h.elim
        · exact h.elim
      · rintro ⟨x, y, hx, hy, hlt, -⟩
        rw [List.mem_singleton] at hx hy
        rw [hx, hy] at hlt
        omega
    | cons b l =>
      constructor
      · rintro (h | h)
        · exact ⟨a, b, List.mem_cons_self, List.mem_cons_of_mem _ List.mem_cons_self, h1 b List.mem_cons_self, h.symm⟩
        · obtain ⟨x, y, hx, hy, h3, h4⟩ := ihl.mp h
          exact ⟨x, y, List.mem_cons_of_mem _ hx, List.mem_cons_of_mem _ hy, h3, h4⟩
      · rintro ⟨x, y, hx, hy, hlt, he⟩
        rcases List.mem_cons.mp hx with hxa | hx2
        · subst hxa
          rcases List.mem_cons.mp hy with hya | hy
          · rw [hya] at hlt; omega
          · refine Or.inl ?_
            have hby : c b ≤ c y := by
              rcases List.mem_cons.mp hy with e | e
              · rw [e]; exact Nat.le_refl _
              · exact Nat.le_of_lt ((List.pairwise_cons.mp h2).1 y e)
            have k1 := hq _ _ (Nat.le_of_lt (h1 b List.mem_cons_self))
            have k2 := hq _ _ hby
            show q (c b) = q (c x)
            omega
        · rcases List.mem_cons.mp hy with hya | hy
          · subst hya
            have := h1 x hx2
            omega
          · exact Or.inr (ihl.mpr ⟨x, y, hx2, hy, hlt, he⟩)
theorem keyA_loop {w : World} {t sh : Nat} {c : Nat → Nat} (hsh : sh < 32) : ∀ (l : List Nat) (k : Nat) (x3 : Int), l.length + k ≤ 48 → seg (w (t + 2)) x3 l → (∀ s, s ∈ l → s < 48 ∧ w (t + 3) s = (c s : Int) ∧ c s < 2097152) → f_Mo_breaksKey_26 w t (sh : Int) x3 0 (k : Int) = some (bi (adjP (fun a b => c b / 2 ^ sh = c a / 2 ^ sh) l)) := by
  intro l
  induction l with
  | nil =>
    intro k x3 hk hs hc
    have hx : x3 = -1 := hs
    unfold f_Mo_breaksKey_26
    refine lp_out ?_
    show f_Mo_breaksKey_26B w t (sh : Int) x3 0 (k : Int) = _
    unfold f_Mo_breaksKey_26B
    rw [bi_0 (show ¬ adjP _ [] from fun z => z), hx, if_pos rfl, gd_t (Or.inl rfl)]
    exact ite_self _
  | cons a l ih =>
    intro k x3 hk hs hc
    obtain ⟨hx, hs'⟩ := hs
    obtain ⟨a1, a2, a3⟩ := hc a List.mem_cons_self
    rw [List.length_cons] at hk
    have e79 : ∀ (v : Int) (x : Int), f_Mo_breaksKey_79 w t (sh : Int) (k : Int) v x = some (Sum.inl (v, x, ((k + 1 : Nat) : Int))) := fun v x => by
      unfold f_Mo_breaksKey_79
      rw [bl_s, wr_of (x := (k : Int) + 1) ⟨by omega, by omega⟩]
      rfl
    cases l with
    | nil =>
      have hn : w (t + 2) a = -1 := hs'
      have hstep : f_Mo_breaksKey_26B w t (sh : Int) x3 0 (k : Int) = some (Sum.inl (-1, 0, ((k + 1 : Nat) : Int))) := by
        unfold f_Mo_breaksKey_26B f_Mo_breaksKey_78
        rw [if_neg (by omega), if_neg (by omega), if_pos rfl, hx, nextOf_n a1, bnd_s, hn, if_pos rfl, e79]
      have := ih (k + 1) (-1) (by rw [List.length_nil] at hk ⊢; omega) rfl (fun s hs => absurd hs List.not_mem_nil)
      unfold f_Mo_breaksKey_26 at this ⊢
      rw [lp_step (F := fun z : (Int × Int × Int) => f_Mo_breaksKey_26B w t (sh : Int) z.1 z.2.1 z.2.2) hstep, this]
      rw [bi_0 (show ¬ adjP _ [] from fun z => z), bi_0 (show ¬ adjP _ [a] from fun z => z.elim (fun z => z) (fun z => z))]
    | cons b l =>
      obtain ⟨hb, -⟩ := id hs'
      obtain ⟨b1, b2, b3⟩ := hc b (List.mem_cons_of_mem _ List.mem_cons_self)
      have hs2 : seg (w (t + 2)) (b : Int) (b :: l) := ⟨rfl, hs'.2⟩
      have hbody : f_Mo_breaksKey_26B w t (sh : Int) x3 0 (k : Int) = if c b / 2 ^ sh = c a / 2 ^ sh then some (Sum.inl ((b : Int), 1, ((k + 1 : Nat) : Int))) else some (Sum.inl ((b : Int), 0, ((k + 1 : Nat) : Int))) := by
        unfold f_Mo_breaksKey_26B f_Mo_breaksKey_78
        rw [if_neg (by omega), if_neg (by omega), if_pos rfl, hx, nextOf_n a1, bnd_s, hb, if_neg (by omega), codeOf_n b1, bnd_s, codeOf_n a1, bnd_s, b2, a2, ishr_n hsh (by omega), ishr_n hsh (by omega), e79, e79]
        by_cases q : c b / 2 ^ sh = c a / 2 ^ sh
        · rw [if_pos (by rw [q]), if_pos q]
        · rw [if_neg (show ¬ ((c b / 2 ^ sh : Nat) : Int) = ((c a / 2 ^ sh : Nat) : Int) from fun z => q (Int.ofNat.inj z)), if_neg q]
      by_cases q : c b / 2 ^ sh = c a / 2 ^ sh
      · rw [if_pos q] at hbody
        rw [bi_1 (show adjP _ (a :: b :: l) from Or.inl q)]
        unfold f_Mo_breaksKey_26
        rw [lp_step (F := fun z : (Int × Int × Int) => f_Mo_breaksKey_26B w t (sh : Int) z.1 z.2.1 z.2.2) hbody]
        refine lp_out ?_
        show f_Mo_breaksKey_26B w t (sh : Int) (b : Int) 1 ((k + 1 : Nat) : Int) = _
        unfold f_Mo_breaksKey_26B
        rw [gd_t (Or.inr rfl), if_neg (show ¬ (b : Int) = -1 by omega), if_neg z10]
        exact ite_self _
      · rw [if_neg q] at hbody
        have := ih (k + 1) (b : Int) (by omega) hs2 (fun s hs => hc s (List.mem_cons_of_mem _ hs))
        unfold f_Mo_breaksKey_26 at this ⊢
        rw [lp_step (F := fun z : (Int × Int × Int) => f_Mo_breaksKey_26B w t (sh : Int) z.1 z.2.1 z.2.2) hbody, this]
        exact congrArg some (bi_c ⟨fun z => Or.inr z, fun z => z.elim (fun z => absurd z q) (fun z => z)⟩)
