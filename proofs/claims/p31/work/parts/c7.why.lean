/-! THE CLASS: how many first literals of a rule can hold -/
theorem canGive_n {w : World} {t b E k r : Nat} (hkb : kdA b = 1) (hkt : kdA t = 6) (hS : WfS w) (hpr : f_Dm_present w = some t) (hr : r < 10) (hd : 1 ≤ w 3 r) (hk : k < 2097152) (hV : VV (w 104)) (htm : ∀ c, c < 3 → -8 ≤ (RB w b).ht c ∧ (RB w b).ht c < 128) (h2 : w b 2 = 0) (h1 : w b 1 = (r : Int)) :
    match gv (RB w b).ht (fun c => (tm8 (mny w r)).testBit c) (clm k) 3 0 nov with
    | some u => ∃ v', VV v' ∧ K8 v' = u ∧ f_Dm_canGive w b (r : Int) (k : Int) (E : Int) = some (setV (bg w b t E) v', 1)
    | none => ∃ v', VV v' ∧ f_Dm_canGive w b (r : Int) (k : Int) (E : Int) = some (setV (bg w b t E) v', 0) := by
  have hm3 : mny w r ≤ 3 := by have := (hS r hr).1; unfold mny; split <;> omega
  have e3 : bg w b t E 3 = w 3 := bg_fr (by omega) (by omega)
  have e4 : bg w b t E 4 = w 4 := bg_fr (by omega) (by omega)
  have hts := tellingSet_n (w := bg w b t E) (WfS_congr (fun c a d k => by rw [bg_fr (by omega) (by omega)]) hS) hr (by rw [e3]; exact hd)
  have em : mny (bg w b t E) r = mny w r := by unfold mny; rw [e3, e4]
  rw [em] at hts
  have hp := pose_n (t := t) (E := E) hkb hk (tm8_lt _ hm3) hV htm
  have start : f_Dm_canGive w b (r : Int) (k : Int) (E : Int) = bnd (f_Wa_pose (bg w b t E) (k : Int) ((tm8 (mny w r) : Nat) : Int)) fun v18 => gd (v18.2 = 0 ∨ v18.2 = 1) (some (v18.1, v18.2)) := by
    unfold f_Dm_canGive
    rw [if_pos h2, if_pos h1, hpr, bnd_s, gd_t hkt, begin_n, bnd_s, hts, bnd_s]
  rw [start]
  cases hg : gv (RB w b).ht (fun c => (tm8 (mny w r)).testBit c) (clm k) 3 0 nov with
  | none =>
    rw [hg] at hp
    obtain ⟨v', p1, p2⟩ := hp
    exact ⟨v', p1, by rw [p2, bnd_s, gd_t (Or.inl rfl)]⟩
  | some u =>
    rw [hg] at hp
    obtain ⟨v', p1, p2, p3⟩ := hp
    exact ⟨v', p1, p2, by rw [p3, bnd_s, gd_t (Or.inr rfl)]⟩
theorem bgV_fr {w : World} {b t E : Nat} {v : Nat → Int} : Fr3 w (setV (bg w b t E) v) := fun c hc => by
  rw [setV_ne (by omega)]
  exact bg_fr (by omega) (by omega)
theorem FrW.r3 {w w' : World} (h : FrW w w') : Fr3 w w' := fun c hc => h.cell (by omega)
theorem Fr3.trans {w w' w'' : World} (h : Fr3 w w') (h' : Fr3 w' w'') : Fr3 w w'' := fun c hc => (h' c hc).trans (h c hc)
/-- a rule of the class, ready to be walked for a relation -/
def RdA (w : World) (b t r N : Nat) (ρ c : Nat → Nat) (Lc : Nat → List Nat) : Prop :=
  (kdA b = 1 ∧ kdA t = 6 ∧ f_Dm_present w = some t) ∧ (WfS w ∧ AMod w t N ρ c Lc ∧ VCs w N ρ c) ∧ (r < 10 ∧ 1 ≤ w 3 r) ∧ (WfR (SA w) (RB w b) ∧ SafeL (RB w b) ∧ Few (RB w b)) ∧ (w b 0 = ((RB w b).ln : Int) ∧ w b 1 = (r : Int) ∧ w b 2 = 0)
theorem present_c {w w' : World} {t : Nat} (h : ∀ c, c < 98 ∨ (107 ≤ c ∧ c < 110) → w' c = w c) (hp : f_Dm_present w = some t) : f_Dm_present w' = some t := by
  unfold f_Dm_present f_Dm_modelOf f_Dm_modelOf_22 f_Dm_modelOf_26 at hp ⊢
  rw [h 1 (by omega), h 108 (by omega)]
  exact hp
theorem RdA.fr {w w' : World} {b t r N : Nat} {ρ c : Nat → Nat} {Lc : Nat → List Nat} (h : Fr3 w w') (hR : RdA w b t r N ρ c Lc) : RdA w' b t r N ρ c Lc := by
  obtain ⟨⟨a1, a2, a3⟩, ⟨b1, b2, b3⟩, ⟨c1, c2⟩, ⟨d1, d2, d3⟩, e1, e2, e3⟩ := hR
  have hb1 := kd1 a1
  have h6 := kd6 a2
  have hb : w' b = w b := h b (by omega)
  have hRB : RB w' b = RB w b := RB_congr hb (h _ (by omega)) (h _ (by omega)) (h _ (by omega))
  have hSA : SA w' = SA w := SA_c5 (fun c _ _ => h c (by omega))
  have h3 : w' 3 = w 3 := h 3 (by omega)
  refine ⟨⟨a1, a2, present_c (fun c hc => h c (by omega)) a3⟩, ⟨WfS_congr (fun c a b k => by rw [h c (by omega)]) b1, AMod_congr (fun c _ _ => h c (by omega)) (fun c _ _ => h c (by omega)) b2, VCs_3 h3 b3⟩, ⟨c1, by rw [h3]; exact c2⟩, ?_, ?_⟩
  · rw [hRB, hSA]
    exact ⟨d1, d2, d3⟩
  · rw [hRB, hb]
    exact ⟨e1, e2, e3⟩
theorem held_step {w : World} {b t r N E k : Nat} {ρ c : Nat → Nat} {Lc : Nat → List Nat} (hR : RdA w b t r N ρ c Lc) (hk : k < 2097152) (hV : VV (w 104)) (hE : E ≤ (RB w b).ln) : ∃ w1, Fr3 w w1 ∧ VV (w1 104) ∧ ((¬ Hld (AM N ρ c) (RB w b) (fun c => (tm8 (mny w r)).testBit c) (clm k) E ∧ f_Dm_literalsHeld_6B w b (r : Int) (k : Int) (E : Int) = some (Sum.inl (w1, (E : Int) - 1))) ∨ (Hld (AM N ρ c) (RB w b) (fun c => (tm8 (mny w r)).testBit c) (clm k) E ∧ f_Dm_literalsHeld_6B w b (r : Int) (k : Int) (E : Int) = some (Sum.inr (w1, (E : Int))))) := by
  obtain ⟨⟨a1, a2, a3⟩, ⟨b1, b2, b3⟩, ⟨c1, c2⟩, ⟨d1, d2, d3⟩, e1, e2, e3⟩ := hR
  have h5 := d1.1
  have htm := d1.2.2.2.2.2.2
  have hc := canGive_n (E := E) a1 a2 b1 a3 c1 c2 hk hV htm e3 e2
  have e36 : ∀ u : World, f_Dm_literalsHeld_36 u b (r : Int) (k : Int) (E : Int) = some (Sum.inl (u, (E : Int) - 1)) := fun u => by
    unfold f_Dm_literalsHeld_36
    rw [bl_s, wr_of (x := (E : Int) + (-1)) ⟨by omega, by omega⟩]
    rfl
  cases hg : gv (RB w b).ht (fun c => (tm8 (mny w r)).testBit c) (clm k) 3 0 nov with
  | none =>
    rw [hg] at hc
    obtain ⟨v', p1, p2⟩ := hc
    refine ⟨setV (bg w b t E) v', bgV_fr, by rw [setV_104]; exact p1, Or.inl ⟨Hld_no htm (fun c => clm_lt) hg, ?_⟩⟩
    unfold f_Dm_literalsHeld_6B
    rw [if_neg (by omega), p2, bnd_s, if_pos rfl, e36]
  | some u =>
    rw [hg] at hc
    obtain ⟨v', p1, p2, p3⟩ := hc
    obtain ⟨hI, hCQ, hQ, -⟩ := walkA_it (E := E) (v0 := v') a1 a2 b1 b2 d1.L d2 d3 hE p1
    have hx := Hld_ex hQ (SlQ_A b2 b3) hCQ p1 htm (fun c => clm_lt) hg p2
    have hbody : f_Dm_literalsHeld_6B w b (r : Int) (k : Int) (E : Int) = bnd (f_Wa_next (setV (bg w b t E) v')) fun v9 => if v9.2 = 0 then (f_Dm_literalsHeld_36 v9.1 b (r : Int) (k : Int) (E : Int)) else (some (Sum.inr (v9.1, (E : Int)))) := by
      unfold f_Dm_literalsHeld_6B
      rw [if_neg (by omega), p3, bnd_s, if_neg z10]
    rw [hbody]
    cases hl : en (oq (SA w) (AM N ρ c) (RB w b) ρ c) (cq (RB w b) Lc) E 0 v' [] with
    | nil =>
      rw [hl] at hI
      obtain ⟨w', q1, q2, q3⟩ := hI
      refine ⟨w', bgV_fr.trans q2.r3, q3, Or.inl ⟨fun z => (hx.mpr z) hl, ?_⟩⟩
      rw [q1, bnd_s, if_pos rfl, e36]
    | cons x xs =>
      rw [hl] at hI
      obtain ⟨w', q1, q2, q3, -⟩ := hI
      refine ⟨w', bgV_fr.trans q2.r3, q3, Or.inr ⟨hx.mp (by rw [hl]; exact List.cons_ne_nil x xs), ?_⟩⟩
      rw [q1, bnd_s, if_neg z10]
theorem Hld_fr {w w' : World} {b r N k E : Nat} {ρ c : Nat → Nat} (h : Fr3 w w') (hkb : kdA b = 1) : Hld (AM N ρ c) (RB w' b) (fun c => (tm8 (mny w' r)).testBit c) (clm k) E ↔ Hld (AM N ρ c) (RB w b) (fun c => (tm8 (mny w r)).testBit c) (clm k) E := by
  have hb1 := kd1 hkb
  have hRB : RB w' b = RB w b := RB_congr (h b (by omega)) (h _ (by omega)) (h _ (by omega)) (h _ (by omega))
  have em : mny w' r = mny w r := by unfold mny; rw [h 3 (by omega), h 4 (by omega)]
  rw [hRB, em]
theorem held_out {w : World} {b : Nat} {r k : Int} : f_Dm_literalsHeld_6 w b r k (-1) = some (w, -1) := by
  unfold f_Dm_literalsHeld_6
  refine lp_out ?_
  show f_Dm_literalsHeld_6B w b r k (-1) = _
  unfold f_Dm_literalsHeld_6B
  rw [if_pos (by decide)]
/-- the greatest number of first literals -/
def Top (P : Nat → Prop) (n : Nat) (h : Int) : Prop := (h = -1 ∧ ∀ e, e ≤ n → ¬ P e) ∨ ∃ e : Nat, h = (e : Int) ∧ e ≤ n ∧ P e ∧ ∀ e', e < e' → e' ≤ n → ¬ P e'
theorem Top.uni {P P' : Nat → Prop} {n : Nat} {h h' : Int} (hP : ∀ e, e ≤ n → (P e ↔ P' e)) (a : Top P n h) (b : Top P' n h') : h = h' := by
  rcases a with ⟨a1, a2⟩ | ⟨e, a1, a2, a3, a4⟩
  · rcases b with ⟨b1, b2⟩ | ⟨f, b1, b2, b3, b4⟩
    · rw [a1, b1]
    · exact absurd ((hP f b2).mpr b3) (a2 f b2)
  · rcases b with ⟨b1, b2⟩ | ⟨f, b1, b2, b3, b4⟩
    · exact absurd ((hP e a2).mp a3) (b2 e a2)
    · rcases Nat.lt_trichotomy e f with q | q | q
      · exact absurd ((hP f b2).mpr b3) (a4 f q b2)
      · rw [a1, b1, q]
      · exact absurd ((hP e a2).mp a3) (b4 e q a2)
theorem heldA {b t r N k : Nat} {ρ c : Nat → Nat} {Lc : Nat → List Nat} (hk : k < 2097152) : ∀ (E : Nat) (w : World), RdA w b t r N ρ c Lc → VV (w 104) → E ≤ (RB w b).ln → ∃ w1 h, f_Dm_literalsHeld_6 w b (r : Int) (k : Int) (E : Int) = some (w1, h) ∧ Fr3 w w1 ∧ VV (w1 104) ∧ Top (Hld (AM N ρ c) (RB w b) (fun c => (tm8 (mny w r)).testBit c) (clm k)) E h := by
  intro E
  induction E with
  | zero =>
    intro w hR hV hE
    obtain ⟨w1, h1, h2, h3⟩ := held_step hR hk hV hE
    rcases h3 with ⟨n1, n2⟩ | ⟨n1, n2⟩
    · refine ⟨w1, -1, ?_, h1, h2, Or.inl ⟨rfl, fun e he => ?_⟩⟩
      · have := held_out (w := w1) (b := b) (r := (r : Int)) (k := (k : Int))
        rw [← this]
        unfold f_Dm_literalsHeld_6
        exact lp_step (F := fun z : (World × Int) => f_Dm_literalsHeld_6B z.1 b (r : Int) (k : Int) z.2) (s := (w, ((0 : Nat) : Int))) n2
      · have : e = 0 := by omega
        rw [this]
        exact n1
    · refine ⟨w1, 0, ?_, h1, h2, Or.inr ⟨0, rfl, Nat.le_refl _, n1, fun e' a1 a2 => by omega⟩⟩
      unfold f_Dm_literalsHeld_6
      exact lp_out (F := fun z : (World × Int) => f_Dm_literalsHeld_6B z.1 b (r : Int) (k : Int) z.2) (s := (w, ((0 : Nat) : Int))) n2
  | succ E ih =>
    intro w hR hV hE
    obtain ⟨w1, h1, h2, h3⟩ := held_step hR hk hV hE
    rcases h3 with ⟨n1, n2⟩ | ⟨n1, n2⟩
    · have hRB : RB w1 b = RB w b := by
        have hb1 := kd1 hR.1.1
        exact RB_congr (h1 b (by omega)) (h1 _ (by omega)) (h1 _ (by omega)) (h1 _ (by omega))
      obtain ⟨w2, h, g1, g2, g3, g4⟩ := ih w1 (hR.fr h1) h2 (by rw [hRB]; omega)
      refine ⟨w2, h, ?_, h1.trans g2, g3, ?_⟩
      · rw [← g1]
        unfold f_Dm_literalsHeld_6
        refine lp_step (F := fun z : (World × Int) => f_Dm_literalsHeld_6B z.1 b (r : Int) (k : Int) z.2) (s := (w, ((E + 1 : Nat) : Int))) ?_
        show f_Dm_literalsHeld_6B w b (r : Int) (k : Int) ((E + 1 : Nat) : Int) = _
        rw [n2, show ((E + 1 : Nat) : Int) - 1 = (E : Int) by omega]
      · rcases g4 with ⟨x1, x2⟩ | ⟨e, x1, x2, x3, x4⟩
        · refine Or.inl ⟨x1, fun e he => ?_⟩
          by_cases q : e = E + 1
          · rw [q]; exact n1
          · exact fun z => x2 e (by omega) ((Hld_fr h1 hR.1.1).mpr z)
        · refine Or.inr ⟨e, x1, by omega, (Hld_fr h1 hR.1.1).mp x3, fun e' y1 y2 => ?_⟩
          by_cases q : e' = E + 1
          · rw [q]; exact n1
          · exact fun z => x4 e' y1 (by omega) ((Hld_fr h1 hR.1.1).mpr z)
    · refine ⟨w1, ((E + 1 : Nat) : Int), ?_, h1, h2, Or.inr ⟨E + 1, rfl, Nat.le_refl _, n1, fun e' a1 a2 => by omega⟩⟩
      unfold f_Dm_literalsHeld_6
      exact lp_out (F := fun z : (World × Int) => f_Dm_literalsHeld_6B z.1 b (r : Int) (k : Int) z.2) (s := (w, ((E + 1 : Nat) : Int))) n2
/-- a rule that is removed, or of another relation -/
theorem held_no {w : World} {b : Nat} {r k : Int} (h : ¬ (w b 2 = 0 ∧ w b 1 = r)) : ∀ E : Nat, E ≤ 5 → f_Dm_literalsHeld_6 w b r k (E : Int) = some (w, -1) := by
  have hc : ∀ x : Int, f_Dm_canGive w b r k x = some (w, 0) := fun x => by
    unfold f_Dm_canGive
    by_cases q : w b 2 = 0
    · rw [if_pos q, if_neg (fun z => h ⟨q, z⟩)]
    · rw [if_neg q]
  have hbody : ∀ E : Nat, E ≤ 5 → f_Dm_literalsHeld_6B w b r k (E : Int) = some (Sum.inl (w, (E : Int) - 1)) := fun E hE => by
    unfold f_Dm_literalsHeld_6B f_Dm_literalsHeld_36
    rw [if_neg (by omega), hc, bnd_s, if_pos rfl, bl_s, wr_of (x := (E : Int) + (-1)) ⟨by omega, by omega⟩]
    rfl
  intro E
  induction E with
  | zero =>
    intro hE
    have := held_out (w := w) (b := b) (r := r) (k := k)
    rw [← this]
    unfold f_Dm_literalsHeld_6
    exact lp_step (F := fun z : (World × Int) => f_Dm_literalsHeld_6B z.1 b r k z.2) (s := (w, ((0 : Nat) : Int))) (hbody 0 hE)
  | succ E ih =>
    intro hE
    rw [← ih (by omega)]
    unfold f_Dm_literalsHeld_6
    refine lp_step (F := fun z : (World × Int) => f_Dm_literalsHeld_6B z.1 b r k z.2) (s := (w, ((E + 1 : Nat) : Int))) ?_
    show f_Dm_literalsHeld_6B w b r k ((E + 1 : Nat) : Int) = _
    rw [hbody (E + 1) hE, show ((E + 1 : Nat) : Int) - 1 = (E : Int) by omega]
