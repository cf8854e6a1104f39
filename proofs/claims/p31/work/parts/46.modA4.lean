theorem merged_n {w : World} {t r a b : Nat} (hS : WfS w) (hr : r < 10) (ha : a < 2097152) (hb : b < 2097152) : f_Mo_merged w t (r : Int) (a : Int) (b : Int) = some ((jn ((SA w).ki (r : Int)) a b : Nat) : Int) := by
  have hk := (hS r hr).2.1
  unfold f_Mo_merged jn
  rw [kindOf_n hr, bnd_s, SA_ki hr]
  by_cases h1 : w 4 r = 1
  · rw [if_pos h1, if_pos (show (w 4 r).toNat = 1 by omega)]
    unfold imin
    by_cases h : a ≤ b
    · rw [if_pos (by omega), Nat.min_eq_left h]
    · rw [if_neg (by omega), Nat.min_eq_right (by omega)]
  · rw [if_neg h1, if_neg (show ¬ (w 4 r).toNat = 1 by omega)]
    by_cases h2 : w 4 r = 2
    · rw [if_pos h2, if_pos (show (w 4 r).toNat = 2 by omega)]
      unfold imax
      by_cases h : b ≤ a
      · rw [if_pos (by omega), Nat.max_eq_left h]
      · rw [if_neg (by omega), Nat.max_eq_right (by omega)]
    · rw [if_neg h2, if_neg (show ¬ (w 4 r).toNat = 2 by omega), ior_n (by omega) (by omega)]
/-- what a tuple taken in does: nothing, a slot's tuple grows, a new slot, or too many -/
def TakeA (w : World) (t n : Nat) (ρ c : Nat → Nat) (L : Nat → List Nat) (r m : Nat) (rd : Int) (w' : World) (ch : Int) (n' : Nat) (ρ' c' : Nat → Nat) (L' : Nat → List Nat) : Prop :=
  (∃ x, x < n ∧ ρ x = r ∧ kz ((SA w).kq r) (c x) = kz ((SA w).kq r) m ∧ jn ((SA w).ki r) (c x) m = c x ∧ w' = w ∧ ch = 0 ∧ n' = n ∧ ρ' = ρ ∧ c' = c ∧ L' = L) ∨
  (∃ x, x < n ∧ ρ x = r ∧ kz ((SA w).kq r) (c x) = kz ((SA w).kq r) m ∧ jn ((SA w).ki r) (c x) m ≠ c x ∧ ch = 1 ∧ n' = n ∧ ρ' = ρ ∧ c' = upn c x (jn ((SA w).ki r) (c x) m) ∧ L' = L ∧ (∀ k, w' t k = w t k) ∧ (∀ k, w' (t + 1) k = w (t + 1) k) ∧ (∀ k, w' (t + 2) k = w (t + 2) k) ∧ (∀ s, w' (t + 4) s = if s = x then rd else w (t + 4) s)) ∨
  (n = 48 ∧ (∀ x, x < n → ρ x = r → kz ((SA w).kq r) (c x) ≠ kz ((SA w).kq r) m) ∧ w' = up w t 2 1 ∧ ch = 0 ∧ n' = n ∧ ρ' = ρ ∧ c' = c ∧ L' = L) ∨
  (n < 48 ∧ (∀ x, x < n → ρ x = r → kz ((SA w).kq r) (c x) ≠ kz ((SA w).kq r) m) ∧ ch = 1 ∧ n' = n + 1 ∧ ρ' = upn ρ n r ∧ c' = upn c n m ∧ (∃ l1 l2, L r = l1 ++ l2 ∧ L' = upn L r (l1 ++ n :: l2)) ∧ (∀ k, k ≠ 1 → w' t k = w t k) ∧ (∀ s, w' (t + 4) s = if s = n then rd else w (t + 4) s))
theorem AMod_over {w : World} {t n : Nat} {ρ c : Nat → Nat} {L : Nat → List Nat} (ht : 98 ≤ t) (v : Int) (h : AMod w t n ρ c L) : AMod (up w t 2 v) t n ρ c L := by
  have hSA : SA (up w t 2 v) = SA w := SA_congr (fun c h3 h6 k => by simp [up, show c ≠ t by omega])
  obtain ⟨h1, h2, h3, h4, h5, h6⟩ := h
  have e1 : ∀ k j : Nat, up w t 2 v (t + (k + 1)) j = w (t + (k + 1)) j := fun k j => by simp [up]
  refine ⟨by simp [up, h1], h2, fun r hr => ?_, h4, fun s hs => ?_, by rw [hSA]; exact h6⟩
  · have e2 : up w t 2 v (t + 2) = w (t + 2) := funext (fun j => e1 1 j)
    rw [e2, e1 0 r]
    exact h3 r hr
  · have e3 : up w t 2 v 3 (ρ s) = w 3 (ρ s) := by simp [up, show 3 ≠ t by omega]
    rw [e1 2 s, e3]
    exact h5 s hs
theorem take_n {w : World} {t n m r : Nat} {rd : Int} {ρ c : Nat → Nat} {L : Nat → List Nat} (ht : 98 ≤ t) (hS : WfS w) (h : AMod w t n ρ c L) (hr : r < 10) (hd : 1 ≤ w 3 r) (hm : m < 2097152) :
    ∃ w' ch n' ρ' c' L', f_Mo_take w t (r : Int) (m : Int) rd = some (w', ch) ∧ FrM t w w' ∧ AMod w' t n' ρ' c' L' ∧ TakeA w t n ρ c L r m rd w' ch n' ρ' c' L' := by
  have h48 := h.2.1
  rcases slotLike_n hS h hr hd hm with ⟨x, hx, hρ, hz, he⟩ | ⟨hz, he⟩
  · have hsx := h.2.2.2.2.1 x hx
    have hcode : f_Mo_codeOf w t (x : Int) = some (c x : Int) := by rw [codeOf_n (by omega), hsx.2.1]
    have hD := hS.D
    have hk4 := SA_kq4 hS (r := (r : Int))
    by_cases hj : jn ((SA w).ki r) (c x) m = c x
    · refine ⟨w, 0, n, ρ, c, L, ?_, FrM.refl, h, Or.inl ⟨x, hx, hρ, hz, hj, rfl, rfl, rfl, rfl, rfl, rfl⟩⟩
      unfold f_Mo_take
      rw [he, bnd_s, if_neg (by omega), hcode, bnd_s, merged_n hS hr hsx.2.2.1 hm, bnd_s, bnd_s, if_pos (by rw [hj])]
    · have hjl := jn_lt (k := (SA w).ki r) hsx.2.2.1 hm
      refine ⟨up (up w (t + 3) x ((jn ((SA w).ki r) (c x) m : Nat) : Int)) (t + 4) x rd, 1, n, ρ, upn c x (jn ((SA w).ki r) (c x) m), L, ?_, ?_, ?_, Or.inr (Or.inl ⟨x, hx, hρ, hz, hj, rfl, rfl, rfl, rfl, rfl, ?_, ?_, ?_, ?_⟩)⟩
      · unfold f_Mo_take
        rw [he, bnd_s, if_neg (by omega), hcode, bnd_s, merged_n hS hr hsx.2.2.1 hm, bnd_s, bnd_s, if_neg (by omega), if_neg (by omega), if_pos (by omega), gd_t ⟨by omega, by omega⟩, bl_s, gd_t ⟨by omega, by omega⟩, bl_s, Int.toNat_natCast]
      · intro c hc k
        simp [up, show c ≠ t + 3 by omega, show c ≠ t + 4 by omega]
      · have hSA : SA (up (up w (t + 3) x ((jn ((SA w).ki r) (c x) m : Nat) : Int)) (t + 4) x rd) = SA w := SA_congr (fun c h3 h6 k => by simp [up, show c ≠ t + 3 by omega, show c ≠ t + 4 by omega])
        obtain ⟨h1, h2, h3, h4, h5, h6⟩ := h
        refine ⟨by simp [up, h1], h2, fun q hq => ?_, h4, fun s hs => ?_, fun q hq => ?_⟩
        · have e1 : up (up w (t + 3) x ((jn ((SA w).ki r) (c x) m : Nat) : Int)) (t + 4) x rd (t + 2) = w (t + 2) := funext (fun j => by simp [up])
          have e2 : up (up w (t + 3) x ((jn ((SA w).ki r) (c x) m : Nat) : Int)) (t + 4) x rd (t + 1) q = w (t + 1) q := by simp [up]
          rw [e1, e2]
          exact h3 q hq
        · have e3 : up (up w (t + 3) x ((jn ((SA w).ki r) (c x) m : Nat) : Int)) (t + 4) x rd 3 (ρ s) = w 3 (ρ s) := by
            have h9 : ¬ t = 0 := by omega
            simp [up, h9]
          have e4 : up (up w (t + 3) x ((jn ((SA w).ki r) (c x) m : Nat) : Int)) (t + 4) x rd (t + 3) s = if s = x then ((jn ((SA w).ki r) (c x) m : Nat) : Int) else w (t + 3) s := by simp [up]
          rw [e3, e4]
          have h5s := h5 s hs
          by_cases e : s = x
          · subst e
            rw [upn_eq, if_pos rfl]
            exact ⟨h5s.1, rfl, hjl, h5s.2.2.2⟩
          · rw [upn_ne e, if_neg e]
            exact h5s
        · rw [hSA]
          have key : ∀ y, y ∈ L q → kz ((SA w).kq q) (upn c x (jn ((SA w).ki r) (c x) m) y) = kz ((SA w).kq q) (c y) := fun y hy => by
            by_cases e : y = x
            · subst e
              have := ((h4 q y hq).mp hy).2
              rw [upn_eq]
              have e9 : q = r := by omega
              subst e9
              exact jn_kz hk4 hsx.2.2.1 hm hz
            · rw [upn_ne e]
          exact (h6 q hq).imp_of_mem (fun {a b} ha hb hab => by rw [key a ha, key b hb]; exact hab)
      · intro k; simp [up]
      · intro k; simp [up]
      · intro k; simp [up]
      · intro s; simp [up]
  · have e0 : f_Mo_take w t (r : Int) (m : Int) rd = bnd (f_Mo_insert w t (r : Int) (m : Int) rd) fun v26 => gd (v26.2 = 0 ∨ v26.2 = 1) (some (v26.1, v26.2)) := by
      unfold f_Mo_take
      rw [he, bnd_s, if_pos rfl]
    rcases insert_n (rd := rd) ht hS h hr hd hm hz with ⟨h48', hi⟩ | ⟨hn, w', l1, l2, hi, hF, hL, hA, hk, hrd⟩
    · refine ⟨up w t 2 1, 0, n, ρ, c, L, ?_, ?_, AMod_over ht 1 h, Or.inr (Or.inr (Or.inl ⟨h48', hz, rfl, rfl, rfl, rfl, rfl, rfl⟩))⟩
      · rw [e0, hi, bnd_s, gd_t (Or.inl rfl)]
      · intro c hc k
        simp [up, show c ≠ t by omega]
    · refine ⟨w', 1, n + 1, upn ρ n r, upn c n m, upn L r (l1 ++ n :: l2), ?_, hF, hA, Or.inr (Or.inr (Or.inr ⟨hn, hz, rfl, rfl, rfl, rfl, ⟨l1, l2, hL, rfl⟩, hk, hrd⟩))⟩
      rw [e0, hi, bnd_s, gd_t (Or.inr rfl)]
/-- the tuples of a model -/
def AM (n : Nat) (ρ c : Nat → Nat) : MM := fun r k => ∃ x, x < n ∧ (ρ x : Int) = r ∧ c x = k
theorem AM_OkM {w : World} {t n : Nat} {ρ c : Nat → Nat} {L : Nat → List Nat} (h : AMod w t n ρ c L) : OkM (SA w) (AM n ρ c) := by
  obtain ⟨h1, h2, h3, h4, h5, h6⟩ := h
  refine ⟨?_, ?_⟩
  · rintro r k ⟨x, hx, rfl, rfl⟩
    have := h5 x hx
    exact ⟨this.2.2.1, by rw [SA_co this.1]; omega⟩
  · rintro r k k' ⟨x, hx, rfl, rfl⟩ ⟨y, hy, hρ, rfl⟩ hz
    have hr := (h5 x hx).1
    have e : ρ y = ρ x := by omega
    by_cases exy : x = y
    · rw [exy]
    · have mx := (h4 (ρ x) x hr).mpr ⟨hx, rfl⟩
      have my := (h4 (ρ x) y hr).mpr ⟨hy, e⟩
      have hp := h6 (ρ x) hr
      -- two places of a strictly rising row
      have key : ∀ (l : List Nat), l.Pairwise (fun a b => kz ((SA w).kq (ρ x : Int)) (c a) < kz ((SA w).kq (ρ x : Int)) (c b)) → ∀ a b, a ∈ l → b ∈ l → a ≠ b → kz ((SA w).kq (ρ x : Int)) (c a) ≠ kz ((SA w).kq (ρ x : Int)) (c b) := by
        intro l
        induction l with
        | nil => intro _ a b ha; cases ha
        | cons z l ih =>
          intro hp a b ha hb hab
          have hp' := List.pairwise_cons.mp hp
          rcases List.mem_cons.mp ha with ea | ha1
          · rcases List.mem_cons.mp hb with eb | hb1
            · exact absurd (ea.trans eb.symm) hab
            · have := hp'.1 b hb1; rw [ea]; omega
          · rcases List.mem_cons.mp hb with eb | hb1
            · have := hp'.1 a ha1; rw [eb]; omega
            · exact ih hp'.2 a b ha1 hb1 hab
      exact absurd hz (key _ hp x y mx my exy)
/-- .. each slot's tuple says no less than before -/
theorem take_le {w w' : World} {t n n' r m : Nat} {ρ c ρ' c' : Nat → Nat} {L L' : Nat → List Nat} {rd ch : Int} (hS : WfS w) (h : AMod w t n ρ c L) (hr : r < 10) (hd : 1 ≤ w 3 r) (hm : m < 2097152) (hT : TakeA w t n ρ c L r m rd w' ch n' ρ' c' L') :
    n ≤ n' ∧ ∀ x, x < n → ρ' x = ρ x ∧ le (SA w) (ρ x) (c x) (c' x) := by
  rcases hT with ⟨x, hx, hρ, hz, hj, rfl, rfl, rfl, rfl, rfl, rfl⟩ | ⟨x, hx, hρ, hz, hj, rfl, rfl, rfl, rfl, rfl, -⟩ | ⟨h48, hz, rfl, rfl, rfl, rfl, rfl, rfl⟩ | ⟨h48, hz, rfl, rfl, rfl, rfl, -, -, -⟩
  · exact ⟨Nat.le_refl _, fun y hy => ⟨rfl, le_rfl⟩⟩
  · refine ⟨Nat.le_refl _, fun y hy => ⟨rfl, ?_⟩⟩
    by_cases e : y = x
    · subst e
      rw [upn_eq, hρ]
      exact (le_jn hS.D (by rw [SA_co hr]; omega) (h.2.2.2.2.1 y hy).2.2.1 hm hz).1
    · rw [upn_ne e]; exact le_rfl
  · exact ⟨Nat.le_refl _, fun y hy => ⟨rfl, le_rfl⟩⟩
  · exact ⟨by omega, fun y hy => ⟨upn_ne (by omega), by rw [upn_ne (by omega)]; exact le_rfl⟩⟩
/-- .. the tuple is there behind it, unless there were too many -/
theorem take_has {w w' : World} {t n n' r m : Nat} {ρ c ρ' c' : Nat → Nat} {L L' : Nat → List Nat} {rd ch : Int} (hS : WfS w) (h : AMod w t n ρ c L) (hr : r < 10) (hd : 1 ≤ w 3 r) (hm : m < 2097152) (hT : TakeA w t n ρ c L r m rd w' ch n' ρ' c' L') (ho : w' t 2 = 0) : ∃ k, AM n' ρ' c' (r : Int) k ∧ le (SA w) (r : Int) m k := by
  have hco : 1 ≤ (SA w).co (r : Int) := by rw [SA_co hr]; omega
  rcases hT with ⟨x, hx, hρ, hz, hj, rfl, rfl, rfl, rfl, rfl, rfl⟩ | ⟨x, hx, hρ, hz, hj, rfl, rfl, rfl, rfl, rfl, -⟩ | ⟨h48, hz, rfl, rfl, rfl, rfl, rfl, rfl⟩ | ⟨h48, hz, rfl, rfl, rfl, rfl, -, -, -⟩
  · refine ⟨c' x, ⟨x, hx, by rw [hρ], rfl⟩, ?_⟩
    have := (le_jn hS.D hco (h.2.2.2.2.1 x hx).2.2.1 hm hz).2
    rwa [hj] at this
  · refine ⟨_, ⟨x, hx, by rw [hρ], rfl⟩, ?_⟩
    rw [upn_eq]
    exact (le_jn hS.D hco (h.2.2.2.2.1 x hx).2.2.1 hm hz).2
  · have : up w t 2 1 t 2 = 1 := by simp [up]
    omega
  · exact ⟨m, ⟨n, by omega, by rw [upn_eq], upn_eq⟩, le_rfl⟩
/-- .. and nothing is there that is not below what had both -/
theorem take_snd {w w' : World} {t n n' r m : Nat} {ρ c ρ' c' : Nat → Nat} {L L' : Nat → List Nat} {rd ch : Int} (hS : WfS w) (h : AMod w t n ρ c L) (hr : r < 10) (hd : 1 ≤ w 3 r) (hm : m < 2097152) (hT : TakeA w t n ρ c L r m rd w' ch n' ρ' c' L') {M' : MM} (hO : OkM (SA w) M') (h1 : ∀ k, AM n ρ c (r : Int) k → ∃ k', M' r k' ∧ le (SA w) r k k') (h2 : ∃ k', M' r k' ∧ le (SA w) r m k') : ∀ k, AM n' ρ' c' (r : Int) k → ∃ k', M' r k' ∧ le (SA w) r k k' := by
  have hco : 1 ≤ (SA w).co (r : Int) := by rw [SA_co hr]; omega
  rcases hT with ⟨x, hx, hρ, hz, hj, rfl, rfl, rfl, rfl, rfl, rfl⟩ | ⟨x, hx, hρ, hz, hj, rfl, rfl, rfl, rfl, rfl, -⟩ | ⟨h48, hz, rfl, rfl, rfl, rfl, rfl, rfl⟩ | ⟨h48, hz, rfl, rfl, rfl, rfl, -, -, -⟩
  · exact h1
  · rintro k ⟨y, hy, hρy, rfl⟩
    by_cases e : y = x
    · subst e
      rw [upn_eq]
      obtain ⟨k1, hk1, hl1⟩ := h1 (c y) ⟨y, hy, hρy, rfl⟩
      obtain ⟨k2, hk2, hl2⟩ := h2
      have : k1 = k2 := hO.2 _ _ _ hk1 hk2 (hl1.1.symm.trans (hz.trans hl2.1))
      subst this
      exact ⟨k1, hk1, jn_le hS.D hco (h.2.2.2.2.1 y hy).2.2.1 hm hl1 hl2⟩
    · rw [upn_ne e]
      exact h1 _ ⟨y, hy, hρy, rfl⟩
  · exact h1
  · rintro k ⟨y, hy, hρy, rfl⟩
    by_cases e : y = n
    · subst e
      rw [upn_eq]
      exact h2
    · rw [upn_ne e] at hρy
      rw [upn_ne e]
      exact h1 _ ⟨y, by omega, hρy, rfl⟩
/-- .. other relations are as they were -/
theorem take_oth {w w' : World} {t n n' r m : Nat} {ρ c ρ' c' : Nat → Nat} {L L' : Nat → List Nat} {rd ch : Int} (hT : TakeA w t n ρ c L r m rd w' ch n' ρ' c' L') {q : Int} (hq : q ≠ r) (k : Nat) : AM n' ρ' c' q k ↔ AM n ρ c q k := by
  rcases hT with ⟨x, hx, hρ, hz, hj, rfl, rfl, rfl, rfl, rfl, rfl⟩ | ⟨x, hx, hρ, hz, hj, rfl, rfl, rfl, rfl, rfl, -⟩ | ⟨h48, hz, rfl, rfl, rfl, rfl, rfl, rfl⟩ | ⟨h48, hz, rfl, rfl, rfl, rfl, -, -, -⟩
  · exact Iff.rfl
  · constructor
    · rintro ⟨y, hy, rfl, rfl⟩
      have e : y ≠ x := fun e => hq (by rw [e, hρ])
      exact ⟨y, hy, rfl, (upn_ne e).symm⟩
    · rintro ⟨y, hy, rfl, rfl⟩
      have e : y ≠ x := fun e => hq (by rw [e, hρ])
      exact ⟨y, hy, rfl, upn_ne e⟩
  · exact Iff.rfl
  · constructor
    · rintro ⟨y, hy, rfl, rfl⟩
      have e : y ≠ n := fun e => hq (by rw [e, upn_eq])
      exact ⟨y, by omega, by rw [upn_ne e], (upn_ne e).symm⟩
    · rintro ⟨y, hy, rfl, rfl⟩
      exact ⟨y, by omega, by rw [upn_ne (by omega)], upn_ne (by omega)⟩
