def upn {α : Type} (f : Nat → α) (k : Nat) (v : α) : Nat → α := fun j => if j = k then v else f j
theorem upn_eq {α : Type} {f : Nat → α} {k : Nat} {v : α} : upn f k v k = v := if_pos rfl
theorem upn_ne {α : Type} {f : Nat → α} {k j : Nat} {v : α} (h : j ≠ k) : upn f k v j = f j := if_neg h
theorem SA_congr {w w' : World} (h : ∀ c, 3 ≤ c → c ≤ 6 → ∀ k, w' c k = w c k) : SA w' = SA w := by
  have h3 := h 3 (by omega) (by omega)
  have h4 := h 4 (by omega) (by omega)
  have h5 := h 5 (by omega) (by omega)
  unfold SA
  simp only [h3, h4, h5]
theorem WfS_congr {w w' : World} (h : ∀ c, 3 ≤ c → c ≤ 6 → ∀ k, w' c k = w c k) (hS : WfS w) : WfS w' := by
  intro r hr
  have := hS r hr
  rw [SA_congr h, h 3 (by omega) (by omega), h 4 (by omega) (by omega), h 5 (by omega) (by omega), h 6 (by omega) (by omega)]
  exact this
/-- nothing but a model's five cells has changed -/
def FrM (t : Nat) (w w' : World) : Prop := ∀ c, ¬ (t ≤ c ∧ c ≤ t + 4) → ∀ k, w' c k = w c k
theorem FrM.refl {t : Nat} {w : World} : FrM t w w := fun _ _ _ => rfl
theorem FrM.trans {t : Nat} {w w' w'' : World} (h : FrM t w w') (h' : FrM t w' w'') : FrM t w w'' := fun c hc k => (h' c hc k).trans (h c hc k)
theorem slotBelow_n {w : World} {t n m r : Nat} {ρ c : Nat → Nat} {L : Nat → List Nat} (hS : WfS w) (h : AMod w t n ρ c L) (hr : r < 10) (hd : 1 ≤ w 3 r) (hm : m < 2097152) :
    ∃ l1 l2, L r = l1 ++ l2 ∧ (∀ x, x ∈ l1 → kz ((SA w).kq r) (c x) < kz ((SA w).kq r) m) ∧ (∀ x, x ∈ l2 → kz ((SA w).kq r) m ≤ kz ((SA w).kq r) (c x)) ∧ f_Mo_slotBelow w t (r : Int) (m : Int) = some (lst l1 (-1)) := by
  have hlen := h.len hr
  obtain ⟨-, h48, hseg, hmem, hsl, hsort⟩ := h
  have hb := ((hS r hr).2.2.2.1 hd).1
  have e : f_Mo_slotBelow w t (r : Int) (m : Int) = f_Mo_slotBelow_22 w t (m : Int) (mk4 ((SA w).kq r)) (-1) (w (t + 1) r) ((0 : Nat) : Int) := by
    unfold f_Mo_slotBelow
    rw [tellingBits_n hr, bnd_s, firstOf_n hr, bnd_s, hb]
    rfl
  rw [e]
  exact slotBelow_loop (c := c) (SA_kq4 hS) hm (L r) 0 (-1) _ (hseg r hr) (by omega) (fun x hx => by
    have h1 := (hmem r x hr).mp hx
    have h2 := hsl x h1.1
    exact ⟨by omega, h2.2.1, h2.2.2.1⟩) (hsort r hr)
/-- behind an insertion -/
theorem insert_AMod {w w' : World} {t n m r : Nat} {ρ c : Nat → Nat} {L : Nat → List Nat} {l1 l2 : List Nat} (ht : 98 ≤ t) (h : AMod w t n ρ c L) (hn : n < 48) (hr : r < 10) (hd : 1 ≤ w 3 r) (hm : m < 2097152) (hL : L r = l1 ++ l2)
    (h1 : ∀ x, x ∈ l1 → kz ((SA w).kq r) (c x) < kz ((SA w).kq r) m) (h2 : ∀ x, x ∈ l2 → kz ((SA w).kq r) m < kz ((SA w).kq r) (c x))
    (hF : FrM t w w') (hc : w' t 1 = (n : Int) + 1) (hcd : ∀ s, w' (t + 3) s = if s = n then (m : Int) else w (t + 3) s)
    (hlink : (l1 = [] ∧ (∀ s, w' (t + 2) s = if s = n then w (t + 1) r else w (t + 2) s) ∧ ∀ q, w' (t + 1) q = if q = r then (n : Int) else w (t + 1) q) ∨ (∃ l0 b, l1 = l0 ++ [b] ∧ (∀ s, w' (t + 2) s = if s = b then (n : Int) else if s = n then w (t + 2) b else w (t + 2) s) ∧ ∀ q, w' (t + 1) q = w (t + 1) q)) :
    AMod w' t (n + 1) (upn ρ n r) (upn c n m) (upn L r (l1 ++ n :: l2)) := by
  have hSA : SA w' = SA w := SA_congr (fun c h3 h6 k => hF c (by omega) k)
  have h3 : ∀ q, w' 3 q = w 3 q := fun q => hF 3 (by omega) q
  obtain ⟨hcount, h48, hseg, hmem, hsl, hsort⟩ := h
  have hlt : ∀ q s, q < 10 → s ∈ L q → s < n := fun q s hq hs => ((hmem q s hq).mp hs).1
  have hl1 : ∀ x, x ∈ l1 → x < n := fun x hx => hlt r x hr (by rw [hL]; exact List.mem_append_left _ hx)
  have hl2 : ∀ x, x ∈ l2 → x < n := fun x hx => hlt r x hr (by rw [hL]; exact List.mem_append_right _ hx)
  refine ⟨by rw [hc]; rfl, by omega, fun q hq => ?_, fun q s hq => ?_, fun s hs => ?_, fun q hq => ?_⟩
  · by_cases e : q = r
    · subst e
      rw [upn_eq]
      have hs0 := hseg q hq
      rw [hL] at hs0
      obtain ⟨mm, hs1, hs2⟩ := seg_app.mp hs0
      rcases hlink with ⟨rfl, hnx, hfs⟩ | ⟨l0, b, rfl, hnx, hfs⟩
      · have hs1 : w (t + 1) q = mm := hs1
        refine ⟨by rw [hfs, if_pos rfl], ?_⟩
        rw [hnx, if_pos rfl, hs1]
        exact seg_congr (fun x hx => by rw [hnx, if_neg (by have := hl2 x hx; omega)]) hs2
      · have hnod : (L q).Nodup := (hsort q hq).imp (fun {a b} hab e => by subst e; exact absurd hab (Nat.lt_irrefl _))
        rw [hL, List.nodup_append] at hnod
        have hb := hl1 b (List.mem_append_right _ List.mem_cons_self)
        have hnod1 := hnod.1
        rw [List.nodup_append] at hnod1
        refine seg_app.mpr ⟨(n : Int), ?_, ?_⟩
        · rw [hfs]
          have hs3 := sgt_snoc.mp hs1
          refine sgt_snoc.mpr ⟨sgt_congr (fun x hx => ?_) hs3.1, by rw [hnx, if_pos rfl]⟩
          have hxn := hl1 x (List.mem_append_left _ hx)
          rw [hnx, if_neg (fun e => (hnod1.2.2 x hx b List.mem_cons_self) e), if_neg (by omega)]
        · refine ⟨rfl, ?_⟩
          rw [hnx, if_neg (by omega), if_pos rfl]
          have hs3 := sgt_snoc.mp hs1
          rw [hs3.2]
          refine seg_congr (fun x hx => ?_) hs2
          have hxn := hl2 x hx
          rw [hnx, if_neg (fun e => (hnod.2.2 b (List.mem_append_right _ List.mem_cons_self) x hx) e.symm), if_neg (by omega)]
    · rw [upn_ne e]
      have hfs : w' (t + 1) q = w (t + 1) q := by
        rcases hlink with ⟨-, -, hfs⟩ | ⟨-, -, -, -, hfs⟩
        · rw [hfs, if_neg e]
        · exact hfs q
      rw [hfs]
      refine seg_congr (fun x hx => ?_) (hseg q hq)
      have hxn := hlt q x hq hx
      rcases hlink with ⟨-, hnx, -⟩ | ⟨l0, b, hb, hnx, -⟩
      · rw [hnx, if_neg (by omega)]
      · have hbr := (hmem r b hr).mp (by rw [hL, hb]; exact List.mem_append_left _ (List.mem_append_right _ List.mem_cons_self))
        have hxr := (hmem q x hq).mp hx
        have hne : x ≠ b := fun e9 => e (by rw [← hxr.2, e9, hbr.2])
        rw [hnx, if_neg hne, if_neg (by omega)]
  · by_cases e : q = r
    · subst e
      rw [upn_eq, List.mem_append, List.mem_cons]
      have := hmem q s hq
      rw [hL, List.mem_append] at this
      by_cases es : s = n
      · subst es
        rw [upn_eq]
        exact ⟨fun _ => ⟨Nat.lt_succ_self _, rfl⟩, fun _ => Or.inr (Or.inl rfl)⟩
      · rw [upn_ne es]
        constructor
        · rintro (h | h | h)
          · have := this.mp (Or.inl h); exact ⟨by omega, this.2⟩
          · exact absurd h es
          · have := this.mp (Or.inr h); exact ⟨by omega, this.2⟩
        · rintro ⟨h, h'⟩
          rcases this.mpr ⟨by omega, h'⟩ with h | h
          · exact Or.inl h
          · exact Or.inr (Or.inr h)
    · rw [upn_ne e]
      by_cases es : s = n
      · subst es
        rw [upn_eq]
        exact ⟨fun h => absurd (hlt q s hq h) (Nat.lt_irrefl _), fun h => absurd h.2.symm e⟩
      · rw [upn_ne es, hmem q s hq]
        constructor
        · rintro ⟨h, h'⟩; exact ⟨by omega, h'⟩
        · rintro ⟨h, h'⟩; exact ⟨by omega, h'⟩
  · rw [hcd, h3]
    by_cases es : s = n
    · subst es
      rw [upn_eq, upn_eq, if_pos rfl]
      exact ⟨hr, rfl, hm, hd⟩
    · rw [upn_ne es, upn_ne es, if_neg es]
      exact hsl s (by omega)
  · rw [hSA]
    by_cases e : q = r
    · subst e
      rw [upn_eq]
      have hp := hsort q hq
      rw [hL] at hp
      rw [List.pairwise_append] at hp ⊢
      have cn : ∀ x, x < n → upn c n m x = c x := fun x hx => upn_ne (by omega)
      refine ⟨hp.1.imp_of_mem (fun {a b} ha hb hab => by rw [cn a (hl1 a ha), cn b (hl1 b hb)]; exact hab), List.pairwise_cons.mpr ⟨fun b hb => by rw [upn_eq, cn b (hl2 b hb)]; exact h2 b hb, hp.2.1.imp_of_mem (fun {a b} ha hb hab => by rw [cn a (hl2 a ha), cn b (hl2 b hb)]; exact hab)⟩, fun a ha b hb => ?_⟩
      rcases List.mem_cons.mp hb with rfl | hb
      · rw [upn_eq, cn a (hl1 a ha)]; exact h1 a ha
      · rw [cn a (hl1 a ha), cn b (hl2 b hb)]; exact hp.2.2 a ha b hb
    · rw [upn_ne e]
      exact (hsort q hq).imp_of_mem (fun {a b} ha hb hab => by
        rw [upn_ne (by have := hlt q a hq ha; omega), upn_ne (by have := hlt q b hq hb; omega)]
        exact hab)
theorem lst_cases : ∀ (l : List Nat), l = [] ∨ ∃ l0 b, l = l0 ++ [b] := by
  intro l
  rcases List.eq_nil_or_concat l with h | ⟨l0, b, h⟩
  · exact Or.inl h
  · exact Or.inr ⟨l0, b, by rw [h, List.concat_eq_append]⟩
/-- a tuple whose key is new -/
theorem insert_n {w : World} {t n m r : Nat} {rd : Int} {ρ c : Nat → Nat} {L : Nat → List Nat} (ht : 98 ≤ t) (hS : WfS w) (h : AMod w t n ρ c L) (hr : r < 10) (hd : 1 ≤ w 3 r) (hm : m < 2097152) (hnew : ∀ x, x < n → ρ x = r → kz ((SA w).kq r) (c x) ≠ kz ((SA w).kq r) m) :
    (n = 48 ∧ f_Mo_insert w t (r : Int) (m : Int) rd = some (up w t 2 1, 0)) ∨
    (n < 48 ∧ ∃ w' l1 l2, f_Mo_insert w t (r : Int) (m : Int) rd = some (w', 1) ∧ FrM t w w' ∧ L r = l1 ++ l2 ∧ AMod w' t (n + 1) (upn ρ n r) (upn c n m) (upn L r (l1 ++ n :: l2)) ∧ (∀ k, k ≠ 1 → w' t k = w t k) ∧ (∀ s, w' (t + 4) s = if s = n then rd else w (t + 4) s)) := by
  have h0 := h
  obtain ⟨hcount, h48, hseg, hmem, hsl, hsort⟩ := h
  by_cases hn : n < 48
  · refine Or.inr ⟨hn, ?_⟩
    obtain ⟨l1, l2, hL, k1, k2, hb⟩ := slotBelow_n hS h0 hr hd hm
    have k2' : ∀ x, x ∈ l2 → kz ((SA w).kq r) m < kz ((SA w).kq r) (c x) := fun x hx => by
      have hx1 := (hmem r x hr).mp (by rw [hL]; exact List.mem_append_right _ hx)
      have := hnew x hx1.1 hx1.2
      have := k2 x hx
      omega
    have hlt1 : ∀ x, x ∈ l1 → x < n := fun x hx => ((hmem r x hr).mp (by rw [hL]; exact List.mem_append_left _ hx)).1
    rcases lst_cases l1 with rfl | ⟨l0, b, rfl⟩
    · refine ⟨up (up (up (up (up w (t + 3) n (m : Int)) (t + 4) n rd) (t + 2) n (w (t + 1) r)) (t + 1) r (n : Int)) t 1 ((n : Int) + 1), [], l2, ?_, ?_, hL, ?_, ?_, ?_⟩
      · unfold f_Mo_insert
        rw [bl_s, hcount, if_neg (by omega), if_neg (by omega), if_neg (by omega), if_pos (by omega), hb, bnd_s, gd_t ⟨by omega, by omega⟩, bl_s, gd_t ⟨by omega, by omega⟩, bl_s]
        rw [if_pos (by decide : (lst [] (-1) : Int) < 0)]
        unfold f_Mo_insert_97 f_Mo_insert_118
        rw [gd_t ⟨by omega, by omega⟩, gd_t ⟨by omega, by omega⟩, bl_s, gd_t ⟨by omega, by omega⟩, bl_s, bl_s, Int.toNat_natCast, Int.toNat_natCast]
        have e1 : up (up w (t + 3) n (m : Int)) (t + 4) n rd (t + 1) r = w (t + 1) r := by simp [up]
        have e2 : up (up (up (up w (t + 3) n (m : Int)) (t + 4) n rd) (t + 2) n (w (t + 1) r)) (t + 1) r (n : Int) t 1 = (n : Int) := by simp [up, hcount]
        rw [e1, e2, wr_of (x := (n : Int) + 1) ⟨by omega, by omega⟩]
      · intro c hc k
        simp [up, show c ≠ t by omega, show c ≠ t + 1 by omega, show c ≠ t + 2 by omega, show c ≠ t + 3 by omega, show c ≠ t + 4 by omega]
      · refine insert_AMod ht h0 hn hr hd hm hL k1 k2' ?_ ?_ ?_ (Or.inl ⟨rfl, ?_, ?_⟩)
        · intro c hc k
          simp [up, show c ≠ t by omega, show c ≠ t + 1 by omega, show c ≠ t + 2 by omega, show c ≠ t + 3 by omega, show c ≠ t + 4 by omega]
        · simp [up]
        · intro s; simp [up]
        · intro s; simp [up]
        · intro q; simp [up]
      · intro k hk; simp [up, hk]
      · intro s; simp [up]
    · have hbn := hlt1 b (List.mem_append_right _ List.mem_cons_self)
      refine ⟨up (up (up (up (up w (t + 3) n (m : Int)) (t + 4) n rd) (t + 2) n (w (t + 2) b)) (t + 2) b (n : Int)) t 1 ((n : Int) + 1), l0 ++ [b], l2, ?_, ?_, hL, ?_, ?_, ?_⟩
      · unfold f_Mo_insert
        rw [bl_s, hcount, if_neg (by omega), if_neg (by omega), if_neg (by omega), if_pos (by omega), hb, bnd_s, gd_t ⟨by omega, by omega⟩, bl_s, gd_t ⟨by omega, by omega⟩, bl_s, lst_snoc]
        rw [if_neg (by omega), if_neg (by omega), gd_t ⟨by omega, by omega⟩, gd_t ⟨by omega, by omega⟩, bl_s, gd_t ⟨by omega, by omega⟩, bl_s]
        unfold f_Mo_insert_118
        rw [bl_s, Int.toNat_natCast, Int.toNat_natCast]
        have e1 : up (up w (t + 3) n (m : Int)) (t + 4) n rd (t + 2) b = w (t + 2) b := by simp [up]
        have e2 : up (up (up (up w (t + 3) n (m : Int)) (t + 4) n rd) (t + 2) n (w (t + 2) b)) (t + 2) b (n : Int) t 1 = (n : Int) := by simp [up, hcount]
        rw [e1, e2, wr_of (x := (n : Int) + 1) ⟨by omega, by omega⟩]
      · intro c hc k
        simp [up, show c ≠ t by omega, show c ≠ t + 1 by omega, show c ≠ t + 2 by omega, show c ≠ t + 3 by omega, show c ≠ t + 4 by omega]
      · refine insert_AMod ht h0 hn hr hd hm hL k1 k2' ?_ ?_ ?_ (Or.inr ⟨l0, b, rfl, ?_, ?_⟩)
        · intro c hc k
          simp [up, show c ≠ t by omega, show c ≠ t + 1 by omega, show c ≠ t + 2 by omega, show c ≠ t + 3 by omega, show c ≠ t + 4 by omega]
        · simp [up]
        · intro s; simp [up]
        · intro s; simp [up]
        · intro q; simp [up]
      · intro k hk; simp [up, hk]
      · intro s; simp [up]
  · have e : n = 48 := by omega
    subst e
    refine Or.inl ⟨rfl, ?_⟩
    unfold f_Mo_insert
    rw [bl_s, hcount, if_neg (by omega), if_pos (by omega)]
    rfl
