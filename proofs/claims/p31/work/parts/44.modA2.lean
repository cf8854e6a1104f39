/-! THE CLASS'S MODELS: a tuple is taken in -/
def jn (k a b : Nat) : Nat := if k = 1 then min a b else if k = 2 then max a b else a ||| b
theorem or_div {a b n : Nat} : (a ||| b) / 2 ^ n = a / 2 ^ n ||| b / 2 ^ n := by
  rw [← Nat.shiftRight_eq_div_pow, ← Nat.shiftRight_eq_div_pow, ← Nat.shiftRight_eq_div_pow, Nat.shiftRight_or_distrib]
theorem lastc_or {k a b : Nat} : lastc k (a ||| b) = lastc k a ||| lastc k b := by
  unfold lastc cl0 cl1 cl2
  split
  · show (a ||| b) / 2 ^ 14 % 2 ^ 7 = (a / 2 ^ 14 % 2 ^ 7) ||| (b / 2 ^ 14 % 2 ^ 7)
    rw [or_div, Nat.or_mod_two_pow]
  · split
    · show (a ||| b) / 2 ^ 7 % 2 ^ 7 = (a / 2 ^ 7 % 2 ^ 7) ||| (b / 2 ^ 7 % 2 ^ 7)
      rw [or_div, Nat.or_mod_two_pow]
    · show (a ||| b) % 2 ^ 7 = (a % 2 ^ 7) ||| (b % 2 ^ 7)
      rw [Nat.or_mod_two_pow]
theorem jn_lt {k a b : Nat} (ha : a < 2097152) (hb : b < 2097152) : jn k a b < 2097152 := by
  unfold jn
  split
  · omega
  · split
    · omega
    · exact Nat.or_lt_two_pow (n := 21) ha hb
theorem kz_or {k a b : Nat} (hk : k < 4) (ha : a < 2097152) (hb : b < 2097152) : kz k (a ||| b) = kz k a ||| kz k b := by
  rw [← and_kz hk (show a ||| b < 2 ^ 21 from Nat.or_lt_two_pow (n := 21) ha hb), ← and_kz hk (show a < 2 ^ 21 from ha), ← and_kz hk (show b < 2 ^ 21 from hb), Nat.and_or_distrib_right]
/-- two tuples with one key: which is the less, by the last column -/
theorem kz_le_last {k a b : Nat} (hk : k = 1 ∨ k = 2 ∨ k = 3) (ha : a < 2097152) (hb : b < 2097152) (h : kz k a = kz k b) : a ≤ b ↔ lastc k a ≤ lastc k b := by
  rcases hk with rfl | rfl | rfl
  · have h : a % 16384 = b % 16384 := h
    show _ ↔ a / 16384 % 128 ≤ b / 16384 % 128
    omega
  · have h : a / 16384 * 16384 + a % 128 = b / 16384 * 16384 + b % 128 := h
    show _ ↔ a / 128 % 128 ≤ b / 128 % 128
    omega
  · have h : a / 128 * 128 = b / 128 * 128 := h
    show _ ↔ a % 128 ≤ b % 128
    omega
theorem jn_kz {k q a b : Nat} (hq : q < 4) (ha : a < 2097152) (hb : b < 2097152) (h : kz q a = kz q b) : kz q (jn k a b) = kz q a := by
  unfold jn
  split
  · rcases Nat.le_total a b with e | e
    · rw [Nat.min_eq_left e]
    · rw [Nat.min_eq_right e, h]
  · split
    · rcases Nat.le_total a b with e | e
      · rw [Nat.max_eq_right e, h]
      · rw [Nat.max_eq_left e]
    · rw [kz_or hq ha hb, ← h, Nat.or_self]
theorem jn_last {k q a b : Nat} (hq : q = 1 ∨ q = 2 ∨ q = 3) (ha : a < 2097152) (hb : b < 2097152) (h : kz q a = kz q b) : lastc q (jn k a b) = jn k (lastc q a) (lastc q b) := by
  have h1 := kz_le_last hq ha hb h
  have h2 := kz_le_last hq hb ha h.symm
  unfold jn
  split
  · rcases Nat.le_total a b with e | e
    · rw [Nat.min_eq_left e, Nat.min_eq_left (h1.mp e)]
    · rw [Nat.min_eq_right e, Nat.min_eq_right (h2.mp e)]
  · split
    · rcases Nat.le_total a b with e | e
      · rw [Nat.max_eq_right e, Nat.max_eq_right (h1.mp e)]
      · rw [Nat.max_eq_left e, Nat.max_eq_left (h2.mp e)]
    · exact lastc_or
theorem jn_comm {k a b : Nat} : jn k a b = jn k b a := by
  unfold jn
  split
  · omega
  · split
    · omega
    · exact Nat.or_comm _ _
theorem lastle_jn {k x y : Nat} (hk : k ≤ 3) (h0 : k ≠ 0) : lastle k x (jn k x y) := by
  have : k = 1 ∨ k = 2 ∨ k = 3 := by omega
  rcases this with rfl | rfl | rfl
  · exact ⟨fun h => absurd h (by decide), fun _ => Nat.min_le_left _ _, fun h => absurd h (by decide), fun h => absurd h (by decide)⟩
  · exact ⟨fun h => absurd h (by decide), fun h => absurd h (by decide), fun _ => Nat.le_max_left _ _, fun h => absurd h (by decide)⟩
  · refine ⟨fun h => absurd h (by decide), fun h => absurd h (by decide), fun h => absurd h (by decide), fun _ => ?_⟩
    show x ||| (x ||| y) = x ||| y
    rw [← Nat.or_assoc, Nat.or_self]
theorem jn_lastle {k x y z : Nat} (hk : k ≤ 3) (h0 : k ≠ 0) (hx : lastle k x z) (hy : lastle k y z) : lastle k (jn k x y) z := by
  have : k = 1 ∨ k = 2 ∨ k = 3 := by omega
  rcases this with rfl | rfl | rfl
  · exact ⟨fun h => absurd h (by decide), fun h => by have := hx.2.1 h; have := hy.2.1 h; show z ≤ min x y; omega, fun h => absurd h (by decide), fun h => absurd h (by decide)⟩
  · exact ⟨fun h => absurd h (by decide), fun h => absurd h (by decide), fun h => by have := hx.2.2.1 h; have := hy.2.2.1 h; show max x y ≤ z; omega, fun h => absurd h (by decide)⟩
  · refine ⟨fun h => absurd h (by decide), fun h => absurd h (by decide), fun h => absurd h (by decide), fun h => ?_⟩
    show (x ||| y) ||| z = z
    rw [Nat.or_assoc, hy.2.2.2 h, hx.2.2.2 h]
theorem kq_cases {D : SH} (hD : WfD D) {r : Int} (hc : 1 ≤ D.co r) : (D.ki r = 0 ∧ D.kq r = 0) ∨ (D.ki r ≠ 0 ∧ D.kq r = D.co r ∧ (D.co r = 1 ∨ D.co r = 2 ∨ D.co r = 3)) := by
  have h3 := (hD r).1
  unfold SH.kq
  by_cases e : D.ki r = 0
  · rw [if_pos e]; exact Or.inl ⟨e, rfl⟩
  · rw [if_neg e]; exact Or.inr ⟨e, rfl, by omega⟩
theorem kq_lt {D : SH} (hD : WfD D) {r : Int} : D.kq r < 4 := by
  unfold SH.kq
  split
  · omega
  · have := (hD r).1; omega
theorem jn_self {k a : Nat} : jn k a a = a := by
  unfold jn
  split
  · omega
  · split
    · omega
    · exact Nat.or_self a
theorem le_jn {D : SH} (hD : WfD D) {r : Int} (hc : 1 ≤ D.co r) {a b : Nat} (ha : a < 2097152) (hb : b < 2097152) (h : kz (D.kq r) a = kz (D.kq r) b) : le D r a (jn (D.ki r) a b) ∧ le D r b (jn (D.ki r) a b) := by
  rcases kq_cases hD hc with ⟨h0, hq⟩ | ⟨h0, hq, h3⟩
  · rw [hq] at h
    have e : a = b := h
    subst e
    rw [jn_self]
    exact ⟨le_rfl, le_rfl⟩
  · have hk := jn_kz (k := D.ki r) (kq_lt hD) ha hb h
    rw [hq] at h
    have hl := jn_last (k := D.ki r) h3 ha hb h
    refine ⟨⟨hk.symm, ?_⟩, ⟨?_, ?_⟩⟩
    · rw [hl]; exact lastle_jn (hD r).2 h0
    · rw [hk, hq, h]
    · rw [hl, jn_comm]; exact lastle_jn (hD r).2 h0
theorem jn_le {D : SH} (hD : WfD D) {r : Int} (hc : 1 ≤ D.co r) {a b m : Nat} (ha : a < 2097152) (hb : b < 2097152) (h1 : le D r a m) (h2 : le D r b m) : le D r (jn (D.ki r) a b) m := by
  have h := h1.1.trans h2.1.symm
  rcases kq_cases hD hc with ⟨h0, hq⟩ | ⟨h0, hq, h3⟩
  · rw [hq] at h
    have e : a = b := h
    subst e
    rw [jn_self]
    exact h1
  · refine ⟨(jn_kz (kq_lt hD) ha hb h).trans h1.1, ?_⟩
    rw [hq] at h
    rw [jn_last h3 ha hb h]
    exact jn_lastle (hD r).2 h0 h1.2 h2.2
/-- paths in a chain -/
def sgt (nx : Nat → Int) : Int → List Nat → Int → Prop
  | s, [], e => s = e
  | s, a :: l, e => s = (a : Int) ∧ sgt nx (nx a) l e
theorem seg_app {nx : Nat → Int} : ∀ {l1 l2 : List Nat} {s : Int}, seg nx s (l1 ++ l2) ↔ ∃ m, sgt nx s l1 m ∧ seg nx m l2 := by
  intro l1
  induction l1 with
  | nil => intro l2 s; exact ⟨fun h => ⟨s, rfl, h⟩, fun ⟨m, h1, h2⟩ => by have h1 : s = m := h1; rw [h1]; exact h2⟩
  | cons a l ih =>
    intro l2 s
    constructor
    · rintro ⟨h1, h2⟩
      obtain ⟨m, h3, h4⟩ := ih.mp h2
      exact ⟨m, ⟨h1, h3⟩, h4⟩
    · rintro ⟨m, ⟨h1, h3⟩, h4⟩
      exact ⟨h1, ih.mpr ⟨m, h3, h4⟩⟩
theorem sgt_snoc {nx : Nat → Int} : ∀ {l : List Nat} {b : Nat} {s e : Int}, sgt nx s (l ++ [b]) e ↔ sgt nx s l (b : Int) ∧ nx b = e := by
  intro l
  induction l with
  | nil => intro b s e; exact ⟨fun h => ⟨h.1, h.2⟩, fun h => ⟨h.1, h.2⟩⟩
  | cons a l ih =>
    intro b s e
    constructor
    · rintro ⟨h1, h2⟩
      have := ih.mp h2
      exact ⟨⟨h1, this.1⟩, this.2⟩
    · rintro ⟨⟨h1, h2⟩, h3⟩
      exact ⟨h1, ih.mpr ⟨h2, h3⟩⟩
theorem seg_congr {nx nx' : Nat → Int} : ∀ {l : List Nat} {s : Int}, (∀ x, x ∈ l → nx' x = nx x) → seg nx s l → seg nx' s l := by
  intro l
  induction l with
  | nil => intro s _ h; exact h
  | cons a l ih =>
    intro s h hs
    refine ⟨hs.1, ?_⟩
    rw [h a List.mem_cons_self]
    exact ih (fun x hx => h x (List.mem_cons_of_mem _ hx)) hs.2
theorem sgt_congr {nx nx' : Nat → Int} : ∀ {l : List Nat} {s e : Int}, (∀ x, x ∈ l → nx' x = nx x) → sgt nx s l e → sgt nx' s l e := by
  intro l
  induction l with
  | nil => intro s e _ h; exact h
  | cons a l ih =>
    intro s e h hs
    refine ⟨hs.1, ?_⟩
    rw [h a List.mem_cons_self]
    exact ih (fun x hx => h x (List.mem_cons_of_mem _ hx)) hs.2
def lst : List Nat → Int → Int
  | [], b => b
  | a :: l, _ => lst l (a : Int)
theorem lst_snoc : ∀ {l : List Nat} {a : Nat} {b : Int}, lst (l ++ [a]) b = (a : Int) := by
  intro l
  induction l with
  | nil => intro a b; rfl
  | cons x l ih => intro a b; exact ih
theorem slotBelow_loop {w : World} {t k n : Nat} {c : Nat → Nat} (hk : k < 4) (hn : n < 2097152) : ∀ (l : List Nat) (i : Nat) (b s : Int), seg (w (t + 2)) s l → i + l.length ≤ 48 → (∀ x, x ∈ l → x < 48 ∧ w (t + 3) x = (c x : Int) ∧ c x < 2097152) → l.Pairwise (fun a b => kz k (c a) < kz k (c b)) →
    ∃ l1 l2, l = l1 ++ l2 ∧ (∀ x, x ∈ l1 → kz k (c x) < kz k n) ∧ (∀ x, x ∈ l2 → kz k n ≤ kz k (c x)) ∧ f_Mo_slotBelow_22 w t (n : Int) (mk4 k) b s (i : Int) = some (lst l1 b) := by
  intro l
  induction l with
  | nil =>
    intro i b s hs hi _ _
    have hs : s = -1 := hs
    subst hs
    refine ⟨[], [], rfl, fun x hx => (by cases hx), fun x hx => (by cases hx), ?_⟩
    unfold f_Mo_slotBelow_22
    refine lp_out ?_
    show f_Mo_slotBelow_22B w t (n : Int) (mk4 k) b (-1) (i : Int) = _
    unfold f_Mo_slotBelow_22B
    split
    · rfl
    · rfl
  | cons a l ih =>
    intro i b s hs hi hx hp
    obtain ⟨rfl, hs2⟩ := hs
    have ha := hx a List.mem_cons_self
    rw [List.length_cons] at hi
    have hp1 := (List.pairwise_cons.mp hp).1
    have step : f_Mo_slotBelow_22B w t (n : Int) (mk4 k) b (a : Int) (i : Int) = if kz k n ≤ kz k (c a) then some (Sum.inl (b, -1, (i : Int) + 1)) else some (Sum.inl ((a : Int), w (t + 2) a, (i : Int) + 1)) := by
      unfold f_Mo_slotBelow_22B
      rw [if_neg (by omega), if_neg (by omega), if_neg (by omega), gd_t ⟨by omega, by omega⟩, Int.toNat_natCast, ha.2.1, iand_mk hk (by omega), iand_mk hk (by omega)]
      by_cases h : kz k n ≤ kz k (c a)
      · rw [if_pos (by omega), if_pos h]
        unfold f_Mo_slotBelow_61 f_Mo_slotBelow_75 f_Mo_slotBelow_93
        rw [if_pos rfl, if_pos rfl, bl_s, wr_of (x := (i : Int) + 1) ⟨by omega, by omega⟩]
      · rw [if_neg (by omega), if_neg h]
        unfold f_Mo_slotBelow_61 f_Mo_slotBelow_75 f_Mo_slotBelow_93
        rw [if_neg (by decide), if_neg (by decide), gd_t ⟨by omega, by omega⟩, bl_s, wr_of (x := (i : Int) + 1) ⟨by omega, by omega⟩, Int.toNat_natCast]
    by_cases h1 : kz k n ≤ kz k (c a)
    · rw [if_pos h1] at step
      refine ⟨[], a :: l, rfl, fun x hx => (by cases hx), fun x hm => ?_, ?_⟩
      · rcases List.mem_cons.mp hm with rfl | hm
        · exact h1
        · have := hp1 x hm; omega
      · unfold f_Mo_slotBelow_22
        rw [lp_step (s' := (b, (-1 : Int), (i : Int) + 1)) step]
        refine lp_out ?_
        show f_Mo_slotBelow_22B w t (n : Int) (mk4 k) b (-1) ((i : Int) + 1) = _
        unfold f_Mo_slotBelow_22B
        split
        · rfl
        · rfl
    · rw [if_neg h1] at step
      obtain ⟨l1, l2, e, e1, e2, e3⟩ := ih (i + 1) (a : Int) _ hs2 (by omega) (fun x hm => hx x (List.mem_cons_of_mem _ hm)) (List.pairwise_cons.mp hp).2
      refine ⟨a :: l1, l2, by rw [e]; rfl, fun x hm => ?_, e2, ?_⟩
      · rcases List.mem_cons.mp hm with rfl | hm
        · omega
        · exact e1 x hm
      · have e4 : f_Mo_slotBelow_22 w t (n : Int) (mk4 k) b (a : Int) (i : Int) = f_Mo_slotBelow_22 w t (n : Int) (mk4 k) (a : Int) (w (t + 2) a) ((i + 1 : Nat) : Int) := by
          unfold f_Mo_slotBelow_22
          exact lp_step (s' := ((a : Int), w (t + 2) a, ((i + 1 : Nat) : Int))) step
        rw [e4, e3]
        rfl
