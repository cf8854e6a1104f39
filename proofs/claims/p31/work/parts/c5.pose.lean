/-! THE CLASS: the head's values are given ahead -/
theorem pose_loop {w : World} {b k m : Nat} (hb : (w 103 1).toNat = b) (hkb : kdA b = 1) (hk : k < 2097152) (hm : m < 8) (htm : ∀ c, c < 3 → -8 ≤ w (b + 3) (15 + c) ∧ w (b + 3) (15 + c) < 128) : ∀ (n c : Nat) (vs : Nat → Int), c + n = 3 → VV vs →
    (∃ v', VV v' ∧ f_Wa_pose_5 (setV w vs) (k : Int) (m : Int) 0 (c : Int) = some (setV w v', 0)) ∧
    (match gv (fun c => w (b + 3) (15 + c)) (fun c => m.testBit c) (clm k) n c vs with
     | some v' => f_Wa_pose_5 (setV w vs) (k : Int) (m : Int) 1 (c : Int) = some (setV w v', 1)
     | none => ∃ v', VV v' ∧ f_Wa_pose_5 (setV w vs) (k : Int) (m : Int) 1 (c : Int) = some (setV w v', 0)) := by
  have hk1 := kd1 hkb
  intro n
  induction n with
  | zero =>
    intro c vs hc hV
    have e : c = 3 := by omega
    subst e
    have fin : ∀ y : Int, (y = 0 ∨ y = 1) → f_Wa_pose_5 (setV w vs) (k : Int) (m : Int) y ((3 : Nat) : Int) = some (setV w vs, y) := fun y hy => by
      unfold f_Wa_pose_5
      refine lp_out ?_
      show f_Wa_pose_5B (setV w vs) (k : Int) (m : Int) y ((3 : Nat) : Int) = _
      unfold f_Wa_pose_5B
      rw [if_pos (by decide), gd_t hy]
    exact ⟨⟨vs, hV, fin 0 (Or.inl rfl)⟩, fin 1 (Or.inr rfl)⟩
  | succ n ih =>
    intro c vs hc hV
    have hc3 : c < 3 := by omega
    have ht := htm c hc3
    have hcl : clm k c < 128 := clm_lt
    have e103 : setV w vs 103 1 = w 103 1 := by rw [setV_ne (by omega)]
    have eb3 : setV w vs (b + 3) = w (b + 3) := setV_ne (by omega)
    obtain ⟨v1, hv1⟩ : ∃ v1, v1 = bd vs (w (b + 3) (15 + c)) ((clm k c : Nat) : Int) := ⟨_, rfl⟩
    have hV1 : VV v1 := by rw [hv1]; exact bd_VV hV (by omega)
    have e69 : ∀ (u : World) (y : Int), f_Wa_pose_69 u (k : Int) (m : Int) y (c : Int) = some (Sum.inl (u, y, ((c + 1 : Nat) : Int))) := fun u y => by
      unfold f_Wa_pose_69
      rw [bl_s, wr_of (x := (c : Int) + 1) ⟨by omega, by omega⟩]
      rfl
    have e68 : ∀ (u : World) (y : Int), f_Wa_pose_68 u (k : Int) (m : Int) (c : Int) y = some (Sum.inl (u, y, ((c + 1 : Nat) : Int))) := fun u y => e69 u y
    have e67 : ∀ (u : World), f_Wa_pose_67 u (k : Int) (m : Int) (c : Int) = some (Sum.inl (u, 0, ((c + 1 : Nat) : Int))) := fun u => e69 u 0
    have hter : f_Bo_termOf (setV w vs) b 5 (c : Int) = some (w (b + 3) (15 + c)) := by
      have := termOf_n (w := setV w vs) (b := b) (p := 5) (c := c) (by omega) hc3
      rw [eb3] at this
      exact this
    have step : ∀ y : Int, f_Wa_pose_5B (setV w vs) (k : Int) (m : Int) y (c : Int) = if m.testBit c = true then some (Sum.inl (setV w v1, (if y = 0 then (0 : Int) else if vl v1 (w (b + 3) (15 + c)) = ((clm k c : Nat) : Int) then 1 else 0), ((c + 1 : Nat) : Int))) else some (Sum.inl (setV w vs, y, ((c + 1 : Nat) : Int))) := by
      intro y
      unfold f_Wa_pose_5B
      rw [if_neg (by omega), bit_one (by omega) (by omega)]
      by_cases hbit : m.testBit c = true
      · rw [if_pos hbit, if_pos hbit, if_neg (show ¬ (1 : Int) = 0 by decide), e103, hb, gd_t hkb, hter, bnd_s, columnOf_n hk ⟨by omega, by omega⟩, bnd_s, bindIfFree_n ht, bnd_s, setV_104, setV_set, Int.toNat_natCast, ← hv1, e67]
        by_cases hy : y = 0
        · rw [if_pos hy, if_pos hy]
        · rw [if_neg hy, if_neg hy, valueOf_n ht, bnd_s, setV_104, bnd_s, e68]
          by_cases q : vl v1 (w (b + 3) (15 + c)) = ((clm k c : Nat) : Int)
          · rw [if_pos q, if_pos q]
          · rw [if_neg q, if_neg q]
      · rw [if_neg hbit, if_neg hbit, if_pos rfl, e69]
    have go : ∀ (y y' : Int) (u : World) (r : Option (World × Int)), f_Wa_pose_5B (setV w vs) (k : Int) (m : Int) y (c : Int) = some (Sum.inl (u, y', ((c + 1 : Nat) : Int))) → f_Wa_pose_5 u (k : Int) (m : Int) y' ((c + 1 : Nat) : Int) = r → f_Wa_pose_5 (setV w vs) (k : Int) (m : Int) y (c : Int) = r := fun y y' u r h1 h2 => by
      rw [← h2]
      unfold f_Wa_pose_5
      exact lp_step (F := fun z : (World × Int × Int) => f_Wa_pose_5B z.1 (k : Int) (m : Int) z.2.1 z.2.2) (s := (setV w vs, y, (c : Int))) h1
    by_cases hbit : m.testBit c = true
    · have ih1 := ih (c + 1) v1 (by omega) hV1
      have s0 := step 0
      have s1 := step 1
      rw [if_pos hbit, if_pos rfl] at s0
      rw [if_pos hbit, if_neg (show ¬ (1 : Int) = 0 by decide)] at s1
      obtain ⟨v', h1, h2⟩ := ih1.1
      refine ⟨⟨v', h1, go 0 0 _ _ s0 h2⟩, ?_⟩
      unfold gv
      rw [if_pos hbit, ← hv1]
      by_cases q : vl v1 (w (b + 3) (15 + c)) = ((clm k c : Nat) : Int)
      · rw [if_pos q] at s1
        rw [if_pos q]
        have ih2 := ih1.2
        cases hg : gv (fun c => w (b + 3) (15 + c)) (fun c => m.testBit c) (clm k) n (c + 1) v1 with
        | none =>
          rw [hg] at ih2
          obtain ⟨v'', h3, h4⟩ := ih2
          exact ⟨v'', h3, go 1 1 _ _ s1 h4⟩
        | some v'' =>
          rw [hg] at ih2
          exact go 1 1 _ _ s1 ih2
      · rw [if_neg q] at s1
        rw [if_neg q]
        exact ⟨v', h1, go 1 0 _ _ s1 h2⟩
    · have ih1 := ih (c + 1) vs (by omega) hV
      have s0 := step 0
      have s1 := step 1
      rw [if_neg hbit] at s0 s1
      obtain ⟨v', h1, h2⟩ := ih1.1
      refine ⟨⟨v', h1, go 0 0 _ _ s0 h2⟩, ?_⟩
      unfold gv
      rw [if_neg hbit]
      have ih2 := ih1.2
      cases hg : gv (fun c => w (b + 3) (15 + c)) (fun c => m.testBit c) (clm k) n (c + 1) vs with
      | none =>
        rw [hg] at ih2
        obtain ⟨v'', h3, h4⟩ := ih2
        exact ⟨v'', h3, go 1 1 _ _ s1 h4⟩
      | some v'' =>
        rw [hg] at ih2
        exact go 1 1 _ _ s1 ih2
theorem vk_K8 {w : World} : K8 (vk w 8) = nov := funext fun x => by
  unfold K8 vk nov
  by_cases q : x < 8
  · rw [if_pos q, if_pos q]
  · rw [if_neg q]
/-- begun and posed: the values given, or it can't be -/
theorem pose_n {w : World} {b t E k m : Nat} (hkb : kdA b = 1) (hk : k < 2097152) (hm : m < 8) (hV : VV (w 104)) (htm : ∀ c, c < 3 → -8 ≤ (RB w b).ht c ∧ (RB w b).ht c < 128) :
    match gv (RB w b).ht (fun c => m.testBit c) (clm k) 3 0 nov with
    | some u => ∃ v', VV v' ∧ K8 v' = u ∧ f_Wa_pose (bg w b t E) (k : Int) (m : Int) = some (setV (bg w b t E) v', 1)
    | none => ∃ v', VV v' ∧ f_Wa_pose (bg w b t E) (k : Int) (m : Int) = some (setV (bg w b t E) v', 0) := by
  have hb1 := kd1 hkb
  obtain ⟨w1, hw1⟩ : ∃ w1, w1 = bg w b t E := ⟨_, rfl⟩
  have g1 : w1 103 1 = (b : Int) := by rw [hw1]; unfold bg; simp [up, setV]
  have g104 : w1 104 = vk w 8 := by rw [hw1, bg_V]
  have hVk : VV (vk w 8) := by
    intro v
    unfold vk
    split
    · omega
    · exact hV v
  have eb3 : w1 (b + 3) = w (b + 3) := by rw [hw1]; exact bg_fr (by omega) (by omega)
  have eht : (fun c => w1 (b + 3) (15 + c)) = (RB w b).ht := by rw [eb3]; rfl
  have h := (pose_loop (w := w1) (b := b) (k := k) (m := m) (by rw [g1, Int.toNat_natCast]) hkb hk hm (fun c hc => by rw [eb3]; exact htm c hc) 3 0 (vk w 8) (by omega) hVk).2
  have es : setV w1 (vk w 8) = w1 := by rw [← g104, setV_self]
  rw [eht, es] at h
  have hk8 := gv_K8 (m := fun c => m.testBit c) (cd := clm k) htm 3 0 (vk w 8) (by omega)
  rw [vk_K8] at hk8
  rw [hk8, ← hw1]
  have ep : f_Wa_pose w1 (k : Int) (m : Int) = f_Wa_pose_5 w1 (k : Int) (m : Int) 1 ((0 : Nat) : Int) := rfl
  rw [ep]
  cases hg : gv (RB w b).ht (fun c => m.testBit c) (clm k) 3 0 (vk w 8) with
  | none =>
    rw [hg] at h
    exact h
  | some v' =>
    rw [hg] at h
    exact ⟨v', (gv_snd htm (fun c => clm_lt) 3 0 (vk w 8) v' (by omega) hVk hg).1, rfl, h⟩
/-! THE REFERENCE: the head's values are given ahead -/
theorem give_n {w : World} {t x : Int} (hV : VB w) (h : -8 ≤ t ∧ t < 128) : f_Re_give w t x = if vl (vB w) t = -1 then some (bw w t x (-1), 1) else if vl (vB w) t = x then some (w, 1) else some (w, 0) := by
  unfold f_Re_give
  rw [isBound_n hV h, bnd_s]
  by_cases q : vl (vB w) t = -1
  · rw [if_pos q, if_pos rfl, if_pos q]
    have ht := (vl_neg q).1
    rw [wr1t h, gd_t ⟨by omega, by omega⟩, bl_s, gd_t ⟨by omega, by omega⟩, bl_s]
    rfl
  · rw [if_neg q, if_neg (by decide), if_neg q, valueOf_b h q, bnd_s]
theorem bw_Q {w : World} {t x own : Int} : FrQ w (bw w t x own) := fun c k a b _ _ => by
  unfold bw up
  rw [if_neg (fun z => b z.1), if_neg (fun z => a z.1)]
theorem bw_by {w : World} {t x : Int} {d : Nat} (h : ByQ w d) : ByQ (bw w t x (-1)) d := fun v hv => by
  by_cases e : v = (-1 - t).toNat
  · right
    have : bw w t x (-1) 24 v = -1 := by unfold bw; simp [up, e]
    omega
  · have : bw w t x (-1) 24 v = w 24 v := by unfold bw; simp [up, e]
    rw [this]
    exact h v hv
theorem bd_no {vs : Nat → Int} {t x : Int} (h : vl vs t ≠ -1) : bd vs t x = vs := by
  unfold bd
  by_cases q : t < 0 ∧ vs (-1 - t).toNat = -1
  · exact absurd (by unfold vl; rw [if_pos q.1]; exact q.2) h
  · rw [if_neg q]
theorem bd_yes {vs : Nat → Int} {t x : Int} (h : vl vs t = -1) : vl (bd vs t x) t = x := by
  obtain ⟨h1, h2⟩ := vl_neg h
  unfold bd
  rw [if_pos ⟨h1, h2⟩]
  unfold vl
  rw [if_pos h1, upn_eq]
theorem giveHead_loop {w : World} {ru many : Nat} {x y z : Int} (hru : ru < 19) (hm : many ≤ 3) (htm : ∀ c, c < 3 → -8 ≤ (RBB w ru).ht c ∧ (RBB w ru).ht c < 128) (hxyz : ∀ c, c < many → pick x y z c = -9 ∨ (0 ≤ pick x y z c ∧ pick x y z c < 128)) : ∀ (n c : Nat) (u : World), c + n = many → FrQ w u → VB u → ByQ u 0 →
    f_Re_giveHead_49 u (ru : Int) x y z (many : Int) 0 (c : Int) = some (u, 0) ∧
    (match gv (RBB w ru).ht (fun c => decide (pick x y z c ≠ -9)) (fun c => (pick x y z c).toNat) n c (vB u) with
     | some v' => ∃ u', f_Re_giveHead_49 u (ru : Int) x y z (many : Int) 1 (c : Int) = some (u', 1) ∧ FrQ u u' ∧ VB u' ∧ ByQ u' 0 ∧ u' 1 30 = u 1 30 ∧ vB u' = v'
     | none => ∃ u', f_Re_giveHead_49 u (ru : Int) x y z (many : Int) 1 (c : Int) = some (u', 0) ∧ FrQ u u' ∧ VB u') := by
  intro n
  induction n with
  | zero =>
    intro c u hc hF hV hby
    have fin : ∀ o : Int, (o = 0 ∨ o = 1) → f_Re_giveHead_49 u (ru : Int) x y z (many : Int) o (c : Int) = some (u, o) := fun o ho => by
      unfold f_Re_giveHead_49
      refine lp_out ?_
      show f_Re_giveHead_49B u (ru : Int) x y z (many : Int) o (c : Int) = _
      unfold f_Re_giveHead_49B
      rw [if_pos (by omega), gd_t ho]
    exact ⟨fin 0 (Or.inl rfl), u, fin 1 (Or.inr rfl), FrQ.refl, hV, hby, rfl, rfl⟩
  | succ n ih =>
    intro c u hc hF hV hby
    have hc3 : c < 3 := by omega
    have hp := hxyz c (by omega)
    have ht := htm c hc3
    have e15 : u 15 (3 * ru + c) = (RBB w ru).ht c := by rw [hF.cell (by omega) (by omega)]; rfl
    have ei : wr ((wr (3 * (ru : Int))) + (c : Int)) = ((3 * ru + c : Nat) : Int) := by
      rw [wr_of (x := 3 * (ru : Int)) ⟨by omega, by omega⟩, wr_of (x := 3 * (ru : Int) + (c : Int)) ⟨by omega, by omega⟩]
      omega
    have e116 : ∀ (v : World) (o : Int), f_Re_giveHead_116 v (ru : Int) x y z (many : Int) (c : Int) o = some (Sum.inl (v, o, ((c + 1 : Nat) : Int))) := fun v o => by
      unfold f_Re_giveHead_116
      rw [bl_s, wr_of (x := (c : Int) + 1) ⟨by omega, by omega⟩]
      rfl
    have body : ∀ o : Int, f_Re_giveHead_49B u (ru : Int) x y z (many : Int) o (c : Int) = f_Re_giveHead_77 u (ru : Int) x y z (many : Int) o (c : Int) (pick x y z c) := fun o => by
      unfold f_Re_giveHead_49B pick
      rw [if_neg (by omega)]
      by_cases c0 : c = 0
      · rw [if_pos (show (c : Int) = 0 by omega), if_pos c0]
      · rw [if_neg (show ¬ (c : Int) = 0 by omega), if_neg c0]
        by_cases c1 : c = 1
        · rw [if_pos (show (c : Int) = 1 by omega), if_pos c1]
        · rw [if_neg (show ¬ (c : Int) = 1 by omega), if_neg c1]
    have go : ∀ (o o' : Int) (v : World) (r : Option (World × Int)), f_Re_giveHead_77 u (ru : Int) x y z (many : Int) o (c : Int) (pick x y z c) = some (Sum.inl (v, o', ((c + 1 : Nat) : Int))) → f_Re_giveHead_49 v (ru : Int) x y z (many : Int) o' ((c + 1 : Nat) : Int) = r → f_Re_giveHead_49 u (ru : Int) x y z (many : Int) o (c : Int) = r := fun o o' v r h1 h2 => by
      rw [← h2]
      unfold f_Re_giveHead_49
      exact lp_step (F := fun s : (World × Int × Int) => f_Re_giveHead_49B s.1 (ru : Int) x y z (many : Int) s.2.1 s.2.2) (s := (u, o, (c : Int))) ((body o).trans h1)
    have e115 : ∀ v : World, f_Re_giveHead_115 v (ru : Int) x y z (many : Int) (c : Int) = some (Sum.inl (v, 0, ((c + 1 : Nat) : Int))) := fun v => e116 v 0
    have e111 : ∀ v : World, f_Re_giveHead_111 v (ru : Int) x y z (many : Int) (c : Int) = some (Sum.inl (v, 1, ((c + 1 : Nat) : Int))) := fun v => e116 v 1
    refine ⟨go 0 0 u _ (by unfold f_Re_giveHead_77; rw [if_pos rfl, e115]) (ih (c + 1) u (by omega) hF hV hby).1, ?_⟩
    unfold gv
    by_cases h9 : pick x y z c = -9
    · rw [if_neg (by simp [h9])]
      have s1 : f_Re_giveHead_77 u (ru : Int) x y z (many : Int) 1 (c : Int) (pick x y z c) = some (Sum.inl (u, 1, ((c + 1 : Nat) : Int))) := by
        unfold f_Re_giveHead_77
        rw [if_neg (by decide), if_pos h9, e111]
      have h := (ih (c + 1) u (by omega) hF hV hby).2
      cases hg : gv (RBB w ru).ht (fun c => decide (pick x y z c ≠ -9)) (fun c => (pick x y z c).toNat) n (c + 1) (vB u) with
      | none =>
        rw [hg] at h
        obtain ⟨u', k1, k2⟩ := h
        exact ⟨u', go 1 1 u _ s1 k1, k2⟩
      | some v' =>
        rw [hg] at h
        obtain ⟨u', k1, k2⟩ := h
        exact ⟨u', go 1 1 u _ s1 k1, k2⟩
    · have hx : 0 ≤ pick x y z c ∧ pick x y z c < 128 := by omega
      have ex : (((pick x y z c).toNat : Nat) : Int) = pick x y z c := by omega
      rw [if_pos (by simp [h9]), ex]
      have s1 : f_Re_giveHead_77 u (ru : Int) x y z (many : Int) 1 (c : Int) (pick x y z c) = if vl (vB u) ((RBB w ru).ht c) = -1 then some (Sum.inl (bw u ((RBB w ru).ht c) (pick x y z c) (-1), 1, ((c + 1 : Nat) : Int))) else if vl (vB u) ((RBB w ru).ht c) = pick x y z c then some (Sum.inl (u, 1, ((c + 1 : Nat) : Int))) else some (Sum.inl (u, 0, ((c + 1 : Nat) : Int))) := by
        unfold f_Re_giveHead_77
        rw [if_neg (by decide), if_neg h9, ei, gd_t ⟨by omega, by omega⟩, Int.toNat_natCast, e15, give_n hV ht]
        by_cases q : vl (vB u) ((RBB w ru).ht c) = -1
        · rw [if_pos q, if_pos q, bnd_s, if_neg (show ¬ ((1 : Int) = 0) by decide), e111]
        · rw [if_neg q, if_neg q]
          by_cases q2 : vl (vB u) ((RBB w ru).ht c) = pick x y z c
          · rw [if_pos q2, if_pos q2, bnd_s, if_neg (show ¬ ((1 : Int) = 0) by decide), e111]
          · rw [if_neg q2, if_neg q2, bnd_s, if_pos rfl, e115]
      by_cases q : vl (vB u) ((RBB w ru).ht c) = -1
      · rw [if_pos q] at s1
        rw [bd_yes q, if_pos rfl, ← bw_vB (own := -1) (vl_neg q).1 q (by decide)]
        have hF' : FrQ u (bw u ((RBB w ru).ht c) (pick x y z c) (-1)) := bw_Q
        have h30 : bw u ((RBB w ru).ht c) (pick x y z c) (-1) 1 30 = u 1 30 := by unfold bw; simp [up]
        have h := (ih (c + 1) (bw u ((RBB w ru).ht c) (pick x y z c) (-1)) (by omega) (hF.trans hF') (bw_VB hV hx) (bw_by hby)).2
        cases hg : gv (RBB w ru).ht (fun c => decide (pick x y z c ≠ -9)) (fun c => (pick x y z c).toNat) n (c + 1) (vB (bw u ((RBB w ru).ht c) (pick x y z c) (-1))) with
        | none =>
          rw [hg] at h
          obtain ⟨u', k1, k2, k3⟩ := h
          exact ⟨u', go 1 1 _ _ s1 k1, hF'.trans k2, k3⟩
        | some v' =>
          rw [hg] at h
          obtain ⟨u', k1, k2, k3, k4, k5, k6⟩ := h
          exact ⟨u', go 1 1 _ _ s1 k1, hF'.trans k2, k3, k4, k5.trans h30, k6⟩
      · rw [if_neg q] at s1
        rw [bd_no q]
        by_cases q2 : vl (vB u) ((RBB w ru).ht c) = pick x y z c
        · rw [if_pos q2] at s1
          rw [if_pos q2]
          have h := (ih (c + 1) u (by omega) hF hV hby).2
          cases hg : gv (RBB w ru).ht (fun c => decide (pick x y z c ≠ -9)) (fun c => (pick x y z c).toNat) n (c + 1) (vB u) with
          | none =>
            rw [hg] at h
            obtain ⟨u', k1, k2⟩ := h
            exact ⟨u', go 1 1 u _ s1 k1, k2⟩
          | some v' =>
            rw [hg] at h
            obtain ⟨u', k1, k2⟩ := h
            exact ⟨u', go 1 1 u _ s1 k1, k2⟩
        · rw [if_neg q2] at s1
          rw [if_neg q2]
          exact ⟨u, go 1 0 u _ s1 (ih (c + 1) u (by omega) hF hV hby).1, FrQ.refl, hV⟩
theorem vB_nov {w : World} : K8 (vB (bgB w)) = nov := funext fun x => by
  unfold K8 nov
  by_cases q : x < 8
  · rw [if_pos q, bgB_vB q]
  · rw [if_neg q]
theorem giveHead_n {w : World} {ru r : Nat} {x y z : Int} (hru : ru < 19) (hT : WfT w) (hr : r < 10) (hd : 1 ≤ w 3 r) (hh : w 14 ru = (r : Int)) (hV : VB w) (htm : ∀ c, c < 3 → -8 ≤ (RBB w ru).ht c ∧ (RBB w ru).ht c < 128) (hxyz : ∀ c, c < mny w r → pick x y z c = -9 ∨ (0 ≤ pick x y z c ∧ pick x y z c < 128)) :
    match gv (RBB w ru).ht (fun c => decide (pick x y z c ≠ -9)) (fun c => (pick x y z c).toNat) (mny w r) 0 nov with
    | some v' => ∃ u, f_Re_giveHead w (ru : Int) x y z = some (u, 1) ∧ FrQ w u ∧ VB u ∧ ByQ u 0 ∧ u 1 30 = 0 ∧ K8 (vB u) = v'
    | none => ∃ u, f_Re_giveHead w (ru : Int) x y z = some (u, 0) ∧ FrQ w u ∧ VB u := by
  obtain ⟨t3, t4, t5, t6, t7⟩ := hT r hr
  have hm3 : mny w r ≤ 3 := by unfold mny; split <;> omega
  have em : (if w 4 r = 0 then w 3 r else wr (w 3 r - 1)) = ((mny w r : Nat) : Int) := by
    unfold mny
    by_cases q : w 4 r = 0
    · rw [if_pos q, if_pos q]; omega
    · rw [if_neg q, if_neg q, wr_of (x := w 3 r - 1) ⟨by omega, by omega⟩]; omega
  have hF := bgB_Q (w := w)
  have h30 : bgB w 1 30 = 0 := by rw [bgB_1, if_pos rfl]
  have start : f_Re_giveHead w (ru : Int) x y z = f_Re_giveHead_49 (bgB w) (ru : Int) x y z ((mny w r : Nat) : Int) 1 ((0 : Nat) : Int) := by
    unfold f_Re_giveHead f_Re_giveHead_37
    rw [gd_t ⟨by omega, by omega⟩, bl_s, Int.toNat_natCast, hh, gd_t ⟨by omega, by omega⟩, Int.toNat_natCast, gd_t ⟨by omega, by omega⟩, beginB_n, bnd_s, bnd_s, ← em]
    by_cases q : w 4 r = 0
    · rw [if_pos q, if_pos q]
      rfl
    · rw [if_neg q, if_neg q, gd_t ⟨by omega, by omega⟩]
      rfl
  have h := (giveHead_loop (many := mny w r) hru hm3 htm hxyz (mny w r) 0 (bgB w) (by omega) hF (bgB_VB hV) bgB_by).2
  have hk8 := gv_K8 (m := fun c => decide (pick x y z c ≠ -9)) (cd := fun c => (pick x y z c).toNat) htm (mny w r) 0 (vB (bgB w)) (by omega)
  rw [vB_nov] at hk8
  rw [hk8, start]
  cases hg : gv (RBB w ru).ht (fun c => decide (pick x y z c ≠ -9)) (fun c => (pick x y z c).toNat) (mny w r) 0 (vB (bgB w)) with
  | none =>
    rw [hg] at h
    obtain ⟨u, k1, k2, k3⟩ := h
    exact ⟨u, k1, hF.trans k2, k3⟩
  | some v' =>
    rw [hg] at h
    obtain ⟨u, k1, k2, k3, k4, k5, k6⟩ := h
    exact ⟨u, k1, hF.trans k2, k3, k4, k5.trans h30, by rw [k6]⟩
