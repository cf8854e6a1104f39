/-! THE REFERENCE: which rules are safe -/
def RuBL (w : World) (ru : Nat) : Prop := ru < 19 ∧ WfT w ∧ w 16 ru = ((RBB w ru).ln : Int) ∧ WfL (SA w) (RBB w ru)
theorem RuB.L {w : World} {ru : Nat} (h : RuB w ru) : RuBL w ru := ⟨h.1, h.2.1, h.2.2.1, h.2.2.2.L⟩
theorem width_L {w : World} {ru p : Nat} (h : RuBL w ru) (hp : p < (RBB w ru).ln) : ∃ wd : Nat, f_Re_width w ((5 * ru + p : Nat) : Int) = some (wd : Int) ∧ wd ≤ 3 ∧ ∀ c, wd ≤ c → c < 3 → (RBB w ru).tm p c = 0 := by
  obtain ⟨hru, hT, h16, h5, hfm, hat, hc2, -⟩ := h
  have e17 : w 17 (5 * ru + p) = (RBB w ru).fm p := rfl
  have e18 : w 18 (5 * ru + p) = (RBB w ru).sj p := rfl
  have hf := hfm p hp
  unfold f_Re_width
  rw [gd_t ⟨by omega, by omega⟩, Int.toNat_natCast, e17, e18]
  by_cases f2 : (RBB w ru).fm p = 2
  · rw [if_pos f2]
    exact ⟨2, rfl, by omega, fun c h1 h2 => by rw [show c = 2 by omega]; exact hc2 p hp f2⟩
  · rw [if_neg f2, gd_t ⟨by omega, by omega⟩]
    by_cases f3 : (RBB w ru).fm p = 3
    · rw [if_pos f3]
      exact ⟨3, rfl, by omega, fun c h1 h2 => by omega⟩
    · rw [if_neg f3, gd_t ⟨by omega, by omega⟩]
      obtain ⟨hc1, hz⟩ := hat p hp (by omega)
      obtain ⟨s, hs, hs10, hs3, hsco⟩ := SA_co_in hc1
      have h3 := (hT s hs10).1
      rw [hsco] at hz
      rw [hs, gd_t ⟨by omega, by omega⟩, Int.toNat_natCast]
      exact ⟨(w 3 s).toNat, by congr 1; omega, by omega, fun c h1 h2 => hz c h1 h2⟩
/-- a term binds in its literal -/
def bnds (R : RU) (p c : Nat) : Prop := R.fm p = 0 ∨ (R.fm p = 3 ∧ c = 0)
/-- a literal's terms, the first of them, are safe -/
def okT (R : RU) (p n : Nat) : Prop := ∀ cc, cc < n → R.tm p cc < 0 → bnds R p cc ∨ BdV R p (-1 - R.tm p cc).toNat
theorem safeU_s {R : RU} {p : Nat} (htm : ∀ c, c < 3 → -8 ≤ R.tm p c ∧ R.tm p c < 128) : SafeU R (p + 1) ↔ SafeU R p ∧ okT R p 3 := by
  constructor
  · intro h
    refine ⟨fun q hq => h q (by omega), fun cc hcc hn => ?_⟩
    by_cases q : bnds R p cc
    · exact Or.inl q
    · have f0 : R.fm p ≠ 0 := fun e => q (Or.inl e)
      obtain ⟨j, c', h1, h2, h3, h4⟩ := h p (by omega) f0 cc hcc (fun e e0 => q (Or.inr ⟨e, e0⟩)) hn
      have hr := htm cc hcc
      exact Or.inr ⟨j, c', h1, h2, h3, by rw [h4]; omega⟩
  · rintro ⟨h1, h2⟩ q hq hf cc hcc h3 hn
    by_cases e : q = p
    · subst e
      rcases h2 cc hcc hn with h4 | ⟨j, c', k1, k2, k3, k4⟩
      · rcases h4 with h4 | h4
        · exact absurd h4 hf
        · exact absurd h4.2 (h3 h4.1)
      · have hr := htm cc hcc
        exact ⟨j, c', k1, k2, k3, by rw [k4]; omega⟩
    · exact h1 q (by omega) hf cc hcc h3 hn
theorem bit1 {m : Nat} {P : Nat → Prop} (h : IsM m P) {t : Int} (ht : -8 ≤ t ∧ t < 0) : (iand (ishr (m : Int) (wr ((-1) - t))) 1 = 1 ↔ P (-1 - t).toNat) ∧ (iand (ishr (m : Int) (wr ((-1) - t))) 1 = 1 ∨ iand (ishr (m : Int) (wr ((-1) - t))) 1 = 0) := by
  have e : wr ((-1) - t) = (((-1 - t).toNat : Nat) : Int) := by rw [wr1t ⟨ht.1, by omega⟩]; omega
  have hm := h.1
  rw [e, bit_one (by omega) (by omega), ← h.2 _ (by omega)]
  by_cases q : m.testBit (-1 - t).toNat = true
  · rw [if_pos q]; exact ⟨⟨fun _ => q, fun _ => rfl⟩, Or.inl rfl⟩
  · rw [if_neg q]; exact ⟨⟨fun z => absurd z (by decide), fun z => absurd z q⟩, Or.inr rfl⟩
/-- the head's terms, the first of them, are safe -/
def okH (R : RU) (n : Nat) : Prop := ∀ cc, cc < n → R.ht cc < 0 → BdV R R.ln (-1 - R.ht cc).toNat
theorem okH_3 {R : RU} (hht : ∀ c, c < 3 → -8 ≤ R.ht c ∧ R.ht c < 128) : okH R 3 ↔ SafeH R := by
  constructor
  · intro h cc hcc hn
    obtain ⟨j, c', k1, k2, k3, k4⟩ := h cc hcc hn
    have := hht cc hcc
    exact ⟨j, c', k1, k2, k3, by rw [k4]; omega⟩
  · intro h cc hcc hn
    obtain ⟨j, c', k1, k2, k3, k4⟩ := h cc hcc hn
    have := hht cc hcc
    exact ⟨j, c', k1, k2, k3, by rw [k4]; omega⟩
theorem isSafeB_n {w : World} {ru : Nat} {x2 : Int} (h : RuBL w ru) (hh : x2 ≠ 0 → (∃ r : Nat, r < 10 ∧ (RBB w ru).tg = (r : Int) ∧ ∀ c : Nat, w 3 r ≤ (c : Int) → c < 3 → (RBB w ru).ht c = 0) ∧ ∀ c, c < 3 → -8 ≤ (RBB w ru).ht c ∧ (RBB w ru).ht c < 128) :
    ∃ v, f_Re_isSafe w (ru : Int) x2 = some v ∧ ((v = 1 ∧ SafeL (RBB w ru) ∧ (x2 ≠ 0 → SafeH (RBB w ru))) ∨ (v = 0 ∧ ¬ (SafeL (RBB w ru) ∧ (x2 ≠ 0 → SafeH (RBB w ru))))) := by
  obtain ⟨hru, hT, h16, hWf⟩ := id h
  obtain ⟨R, hR⟩ : ∃ R, R = RBB w ru := ⟨_, rfl⟩
  obtain ⟨h5, hfm, hat, hc2, htm⟩ := id hWf
  rw [← hR] at h5 hfm htm h16 hh ⊢
  have e15 : ∀ c, w 15 (3 * ru + c) = R.ht c := fun c => by rw [hR]; rfl
  have e19 : ∀ p c, w 19 (3 * (5 * ru + p) + c) = R.tm p c := fun p c => by rw [hR]; rfl
  have e17 : ∀ p, w 17 (5 * ru + p) = R.fm p := fun p => by rw [hR]; rfl
  -- the head
  have head : ∀ (m : Nat) (x : Int), IsM m (BdV R R.ln) → (x = 0 ∨ x = 1) → ∃ v, f_Re_isSafe_168 w (ru : Int) x2 (m : Int) x 0 = some v ∧ (v = 0 ∨ v = 1) ∧ (v = 1 ↔ x = 1 ∧ (x2 ≠ 0 → SafeH R)) := fun m x hm hx => by
    by_cases hx2 : x2 = 0
    · refine ⟨x, ?_, hx, ⟨fun z => ⟨z, fun k => absurd hx2 k⟩, fun z => z.1⟩⟩
      unfold f_Re_isSafe_168
      refine lp_out ?_
      show f_Re_isSafe_168B w (ru : Int) x2 (m : Int) x 0 = _
      unfold f_Re_isSafe_168B
      rw [if_pos hx2, gd_t hx]
    · obtain ⟨⟨r, hr10, hr, hz⟩, hht⟩ := hh hx2
      have e14 : w 14 ru = (r : Int) := by rw [← hr, hR]; rfl
      have h3r := (hT r hr10).1
      have loop : ∀ (j k : Nat) (x : Int), k + j = (w 3 r).toNat → (x = 0 ∨ x = 1) → ∃ v, f_Re_isSafe_168 w (ru : Int) x2 (m : Int) x (k : Int) = some v ∧ (v = 0 ∨ v = 1) ∧ (v = 1 ↔ x = 1 ∧ ∀ cc, k ≤ cc → cc < (w 3 r).toNat → R.ht cc < 0 → BdV R R.ln (-1 - R.ht cc).toNat) := by
        intro j
        induction j with
        | zero =>
          intro k x hk hx
          refine ⟨x, ?_, hx, ⟨fun z => ⟨z, fun cc h1 h2 => absurd h2 (by omega)⟩, fun z => z.1⟩⟩
          unfold f_Re_isSafe_168
          refine lp_out ?_
          show f_Re_isSafe_168B w (ru : Int) x2 (m : Int) x (k : Int) = _
          unfold f_Re_isSafe_168B
          rw [if_neg hx2, gd_t ⟨by omega, by omega⟩, Int.toNat_natCast, e14, gd_t ⟨by omega, by omega⟩, Int.toNat_natCast, if_pos (by omega), gd_t hx]
        | succ j ih =>
          intro k x hk hx
          have hk3 : k < 3 := by omega
          obtain ⟨x', e1, e2⟩ : ∃ x', f_Re_isSafe_168B w (ru : Int) x2 (m : Int) x (k : Int) = some (Sum.inl (x', ((k + 1 : Nat) : Int))) ∧ (x' = 0 ∨ x' = 1) ∧ (x' = 1 ↔ x = 1 ∧ (R.ht k < 0 → BdV R R.ln (-1 - R.ht k).toNat)) := by
            have out : ∀ x : Int, f_Re_isSafe_228 w (ru : Int) x2 (m : Int) (k : Int) x = some (Sum.inl (x, ((k + 1 : Nat) : Int))) := fun x => by
              unfold f_Re_isSafe_228
              rw [bl_s, wr_of (x := (k : Int) + 1) ⟨by omega, by omega⟩]
              rfl
            unfold f_Re_isSafe_168B f_Re_isSafe_223 f_Re_isSafe_227
            rw [if_neg hx2, gd_t ⟨by omega, by omega⟩, Int.toNat_natCast, e14, gd_t ⟨by omega, by omega⟩, Int.toNat_natCast, if_neg (by omega), idx3 (by omega) hk3, gd_t ⟨by omega, by omega⟩, bl_s, Int.toNat_natCast, e15, out, out]
            by_cases x0 : x = 0
            · rw [if_pos x0]
              exact ⟨0, rfl, Or.inl rfl, ⟨fun z => absurd z (by decide), fun z => by omega⟩⟩
            · rw [if_neg x0]
              have x1 : x = 1 := hx.resolve_left x0
              by_cases hn : 0 ≤ R.ht k
              · rw [if_pos hn]
                exact ⟨1, rfl, Or.inr rfl, ⟨fun _ => ⟨x1, fun z => by omega⟩, fun _ => rfl⟩⟩
              · rw [if_neg hn]
                have hb := bit1 hm (t := R.ht k) ⟨(hht k hk3).1, by omega⟩
                by_cases q : BdV R R.ln (-1 - R.ht k).toNat
                · rw [if_pos (hb.1.mpr q)]
                  exact ⟨1, rfl, Or.inr rfl, ⟨fun _ => ⟨x1, fun _ => q⟩, fun _ => rfl⟩⟩
                · rw [if_neg (fun z => q (hb.1.mp z))]
                  exact ⟨0, rfl, Or.inl rfl, ⟨fun z => absurd z (by decide), fun z => absurd (z.2 (by omega)) q⟩⟩
          obtain ⟨v, k1, k2, k3⟩ := ih (k + 1) x' (by omega) e2.1
          refine ⟨v, ?_, k2, k3.trans ?_⟩
          · rw [← k1]
            unfold f_Re_isSafe_168
            exact lp_step (s := (x, (k : Int))) e1
          · constructor
            · rintro ⟨a, b⟩
              obtain ⟨a1, a2⟩ := e2.2.mp a
              refine ⟨a1, fun cc h1 h2 h3 => ?_⟩
              by_cases e : cc = k
              · subst e; exact a2 h3
              · exact b cc (by omega) h2 h3
            · rintro ⟨a, b⟩
              exact ⟨e2.2.mpr ⟨a, fun h3 => b k (Nat.le_refl _) (by omega) h3⟩, fun cc h1 h2 h3 => b cc (by omega) h2 h3⟩
      obtain ⟨v, k1, k2, k3⟩ := loop (w 3 r).toNat 0 x (by omega) hx
      refine ⟨v, k1, k2, k3.trans (and_congr_right fun _ => ?_)⟩
      rw [← okH_3 hht]
      constructor
      · intro z _ cc hcc hn
        by_cases q : cc < (w 3 r).toNat
        · exact z cc (Nat.zero_le _) q hn
        · have := hz cc (by omega) hcc
          omega
      · intro z cc _ h2 h3
        exact z hx2 cc (by omega) h3
  -- one literal
  have lit1 : ∀ (p m : Nat) (x : Int), p < R.ln → IsM m (BdV R p) → (x = 0 ∨ x = 1) → ∃ (m' : Nat) (x' : Int), f_Re_isSafe_31 w (ru : Int) x2 (m : Int) x ((5 * ru + p : Nat) : Int) 0 0 = some (Sum.inl ((m' : Int), x', ((5 * ru + (p + 1) : Nat) : Int))) ∧ IsM m' (BdV R (p + 1)) ∧ (x' = 0 ∨ x' = 1) ∧ (x' = 1 ↔ x = 1 ∧ okT R p 3) := fun p m x hp hm hx => by
    obtain ⟨wd, hw1, hw2, hw3⟩ := width_L h (by rw [← hR]; exact hp)
    rw [← hR] at hw3
    have hp5 : p < 5 := by omega
    have loop : ∀ (j k : Nat) (y : Int) (o : Nat), k + j = wd → (y = 0 ∨ y = 1) → IsM o (fun v => ∃ c, c < k ∧ bnds R p c ∧ R.tm p c = -1 - (v : Int)) → (y = 1 ↔ x = 1 ∧ okT R p k) → ∃ (m' : Nat) (x' : Int), f_Re_isSafe_31 w (ru : Int) x2 (m : Int) y ((5 * ru + p : Nat) : Int) (o : Int) (k : Int) = some (Sum.inl ((m' : Int), x', ((5 * ru + (p + 1) : Nat) : Int))) ∧ IsM m' (BdV R (p + 1)) ∧ (x' = 0 ∨ x' = 1) ∧ (x' = 1 ↔ x = 1 ∧ okT R p 3) := by
      intro j
      induction j with
      | zero =>
        intro k y o hk hy ho hyy
        have e : k = wd := by omega
        subst e
        have h1 := hm.1; have h2 := ho.1
        refine ⟨m ||| o, y, ?_, (hm.or ho).congr (fun v hv => ?_), hy, hyy.trans (and_congr_right fun _ => ?_)⟩
        · unfold f_Re_isSafe_31
          refine lp_out ?_
          show f_Re_isSafe_31B w (ru : Int) x2 (m : Int) y ((5 * ru + p : Nat) : Int) (o : Int) (k : Int) = _
          unfold f_Re_isSafe_31B
          rw [hw1, bnd_s, if_pos (by omega), bl_s, bl_s, ior_n (by omega) (by omega), wr_of (x := ((5 * ru + p : Nat) : Int) + 1) ⟨by omega, by omega⟩]
          rfl
        · constructor
          · rintro (⟨j', c, a1, a2, a3, a4⟩ | ⟨c, a1, a2, a3⟩)
            · exact ⟨j', c, by omega, a2, a3, a4⟩
            · exact ⟨p, c, by omega, by omega, a2, a3⟩
          · rintro ⟨j', c, a1, a2, a3, a4⟩
            by_cases e : j' = p
            · subst e
              refine Or.inr ⟨c, ?_, a3, a4⟩
              refine Classical.byContradiction fun hn => ?_
              have := hw3 c (by omega) a2
              omega
            · exact Or.inl ⟨j', c, by omega, a2, a3, a4⟩
        · constructor
          · intro z cc hcc hn
            by_cases q : cc < k
            · exact z cc q hn
            · have := hw3 cc (by omega) hcc
              omega
          · intro z cc hcc hn
            exact z cc (by omega) hn
      | succ j ih =>
        intro k y o hk hy ho hyy
        have hk3 : k < 3 := by omega
        have hr := htm p k hp hk3
        obtain ⟨bs, hbs, hbs2, hB⟩ : ∃ bs : Int, (bs = 0 ∨ bs = 1) ∧ (bs = 1 ↔ bnds R p k) ∧ f_Re_isSafe_31B w (ru : Int) x2 (m : Int) y ((5 * ru + p : Nat) : Int) (o : Int) (k : Int) = f_Re_isSafe_87 w (ru : Int) x2 (m : Int) y ((5 * ru + p : Nat) : Int) (o : Int) (k : Int) (R.tm p k) bs := by
          unfold f_Re_isSafe_31B f_Re_isSafe_82 f_Re_isSafe_86
          rw [hw1, bnd_s, if_neg (by omega), idx3 (by omega) hk3, gd_t ⟨by omega, by omega⟩, bl_s, Int.toNat_natCast, Int.toNat_natCast, e19, gd_t ⟨by omega, by omega⟩, e17]
          unfold bnds
          by_cases f0 : R.fm p = 0
          · rw [if_pos f0]; exact ⟨1, Or.inr rfl, ⟨fun _ => Or.inl f0, fun _ => rfl⟩, rfl⟩
          · rw [if_neg f0, gd_t ⟨by omega, by omega⟩]
            by_cases f3 : R.fm p = 3
            · rw [if_pos f3]
              by_cases k0 : k = 0
              · rw [if_pos (by omega)]; exact ⟨1, Or.inr rfl, ⟨fun _ => Or.inr ⟨f3, k0⟩, fun _ => rfl⟩, rfl⟩
              · rw [if_neg (by omega)]; exact ⟨0, Or.inl rfl, ⟨fun z => absurd z (by decide), fun z => by omega⟩, rfl⟩
            · rw [if_neg f3]; exact ⟨0, Or.inl rfl, ⟨fun z => absurd z (by decide), fun z => by omega⟩, rfl⟩
        have ho1 := ho.1
        have h121 : ∀ y' : Int, ∃ o' : Nat, f_Re_isSafe_121 w (ru : Int) x2 (m : Int) ((5 * ru + p : Nat) : Int) (o : Int) (k : Int) (R.tm p k) bs y' = some (Sum.inl (y', (o' : Int), ((k + 1 : Nat) : Int))) ∧ IsM o' (fun v => ∃ c, c < k + 1 ∧ bnds R p c ∧ R.tm p c = -1 - (v : Int)) := fun y' => by
          have out : ∀ a : Nat, a < 256 → f_Re_isSafe_145 w (ru : Int) x2 (m : Int) y' ((5 * ru + p : Nat) : Int) (k : Int) (o : Int) (a : Int) = some (Sum.inl (y', ((o ||| a : Nat) : Int), ((k + 1 : Nat) : Int))) := fun a ha => by
            unfold f_Re_isSafe_145
            rw [bl_s, bl_s, ior_n (by omega) (by omega), wr_of (x := (k : Int) + 1) ⟨by omega, by omega⟩]
            rfl
          have no : ¬ (R.tm p k < 0 ∧ bnds R p k) → IsM (o ||| 0) (fun v => ∃ c, c < k + 1 ∧ bnds R p c ∧ R.tm p c = -1 - (v : Int)) := fun hno => by
            rw [Nat.or_zero]
            refine ho.congr (fun v hv => ⟨fun ⟨c, a1, a2⟩ => ⟨c, by omega, a2⟩, fun ⟨c, a1, a2, a3⟩ => ?_⟩)
            by_cases e : c = k
            · subst e; exact absurd ⟨by omega, a2⟩ hno
            · exact ⟨c, by omega, a2, a3⟩
          unfold f_Re_isSafe_121 f_Re_isSafe_144
          by_cases hn : 0 ≤ R.tm p k
          · rw [if_pos hn]
            exact ⟨o ||| 0, out 0 (by omega), no (fun z => by omega)⟩
          · rw [if_neg hn]
            by_cases b0 : bs = 0
            · rw [if_pos b0]
              exact ⟨o ||| 0, out 0 (by omega), no (fun z => by have := hbs2.mpr z.2; omega)⟩
            · rw [if_neg b0]
              have hb := hbs2.mp (hbs.resolve_left b0)
              have hvb : ishl 1 (wr ((-1) - R.tm p k)) = ((vb (R.tm p k) : Nat) : Int) := by
                have h1 := variableBit_n hr
                unfold f_Dm_variableBit at h1
                rw [if_neg (by omega), if_neg (by omega)] at h1
                exact Option.some.inj h1
              rw [hvb]
              refine ⟨o ||| vb (R.tm p k), out _ (vb_lt hr), (ho.or ⟨vb_lt hr, fun v hv => vb_bit hr hv⟩).congr (fun v hv => ?_)⟩
              constructor
              · rintro (⟨c, a1, a2⟩ | a)
                · exact ⟨c, by omega, a2⟩
                · exact ⟨k, by omega, hb, a⟩
              · rintro ⟨c, a1, a2, a3⟩
                by_cases e : c = k
                · subst e; exact Or.inr a3
                · exact Or.inl ⟨c, by omega, a2, a3⟩
        obtain ⟨y', e1, e2, e3⟩ : ∃ y' : Int, f_Re_isSafe_87 w (ru : Int) x2 (m : Int) y ((5 * ru + p : Nat) : Int) (o : Int) (k : Int) (R.tm p k) bs = f_Re_isSafe_121 w (ru : Int) x2 (m : Int) ((5 * ru + p : Nat) : Int) (o : Int) (k : Int) (R.tm p k) bs y' ∧ (y' = 0 ∨ y' = 1) ∧ (y' = 1 ↔ y = 1 ∧ (R.tm p k < 0 → bnds R p k ∨ BdV R p (-1 - R.tm p k).toNat)) := by
          unfold f_Re_isSafe_87 f_Re_isSafe_116 f_Re_isSafe_120
          by_cases y0 : y = 0
          · rw [if_pos y0]; exact ⟨0, rfl, Or.inl rfl, ⟨fun z => absurd z (by decide), fun z => by omega⟩⟩
          · rw [if_neg y0]
            have y1 : y = 1 := hy.resolve_left y0
            by_cases hn : 0 ≤ R.tm p k
            · rw [if_pos hn]; exact ⟨1, rfl, Or.inr rfl, ⟨fun _ => ⟨y1, fun z => by omega⟩, fun _ => rfl⟩⟩
            · rw [if_neg hn]
              by_cases b0 : bs = 0
              · rw [if_pos b0]
                have nb : ¬ bnds R p k := fun z => by have := hbs2.mpr z; omega
                have hb := bit1 hm (t := R.tm p k) ⟨hr.1, by omega⟩
                by_cases q : BdV R p (-1 - R.tm p k).toNat
                · rw [if_pos (hb.1.mpr q)]; exact ⟨1, rfl, Or.inr rfl, ⟨fun _ => ⟨y1, fun _ => Or.inr q⟩, fun _ => rfl⟩⟩
                · rw [if_neg (fun z => q (hb.1.mp z))]
                  exact ⟨0, rfl, Or.inl rfl, ⟨fun z => absurd z (by decide), fun z => absurd (z.2 (by omega)) (fun k => k.elim nb q)⟩⟩
              · rw [if_neg b0]; exact ⟨1, rfl, Or.inr rfl, ⟨fun _ => ⟨y1, fun _ => Or.inl (hbs2.mp (hbs.resolve_left b0))⟩, fun _ => rfl⟩⟩
        obtain ⟨o', e4, e5⟩ := h121 y'
        obtain ⟨m', x', k1, k2⟩ := ih (k + 1) y' o' (by omega) e2 e5 (e3.trans (by
          rw [hyy]
          constructor
          · rintro ⟨⟨a, b⟩, d⟩
            refine ⟨a, fun cc hcc hn => ?_⟩
            by_cases e : cc = k
            · subst e; exact d hn
            · exact b cc (by omega) hn
          · rintro ⟨a, b⟩
            exact ⟨⟨a, fun cc hcc hn => b cc (by omega) hn⟩, fun hn => b k (by omega) hn⟩))
        refine ⟨m', x', ?_, k2⟩
        rw [← k1]
        unfold f_Re_isSafe_31
        refine lp_step (s := (y, (o : Int), (k : Int))) ?_
        show f_Re_isSafe_31B w (ru : Int) x2 (m : Int) y ((5 * ru + p : Nat) : Int) (o : Int) (k : Int) = _
        rw [hB, e1, e4]
    exact loop wd 0 x 0 (by omega) hx ⟨by omega, fun v _ => ⟨fun z => by simp at z, fun ⟨c, a, _⟩ => absurd a (by omega)⟩⟩ ⟨fun z => ⟨z, fun cc hcc => absurd hcc (by omega)⟩, fun z => z.1⟩
  have hend : wr ((wr (5 * (ru : Int))) + w 16 ru) = ((5 * ru + R.ln : Nat) : Int) := by rw [h16, idx5 hru (by omega)]
  have loop : ∀ (j k m : Nat) (x : Int), k + j = R.ln → IsM m (BdV R k) → (x = 0 ∨ x = 1) → (x = 1 ↔ SafeU R k) → ∃ v, f_Re_isSafe_10 w (ru : Int) x2 (m : Int) x ((5 * ru + k : Nat) : Int) = some v ∧ (v = 0 ∨ v = 1) ∧ (v = 1 ↔ SafeL R ∧ (x2 ≠ 0 → SafeH R)) := by
    intro j
    induction j with
    | zero =>
      intro k m x hk hm hx hxx
      have e : k = R.ln := by omega
      subst e
      obtain ⟨v, k1, k2, k3⟩ := head m x hm hx
      refine ⟨v, ?_, k2, k3.trans (by rw [hxx]; exact Iff.rfl)⟩
      unfold f_Re_isSafe_10
      refine lp_out ?_
      show f_Re_isSafe_10B w (ru : Int) x2 (m : Int) x ((5 * ru + R.ln : Nat) : Int) = _
      unfold f_Re_isSafe_10B
      rw [gd_t ⟨by omega, by omega⟩, Int.toNat_natCast, hend, if_pos (by omega), k1, bnd_s]
    | succ j ih =>
      intro k m x hk hm hx hxx
      obtain ⟨m', x', e1, e2, e3, e4⟩ := lit1 k m x (by omega) hm hx
      obtain ⟨v, k1, k2, k3⟩ := ih (k + 1) m' x' (by omega) e2 e3 (by rw [e4, hxx, safeU_s (fun c hc => htm k c (by omega) hc)])
      refine ⟨v, ?_, k2, k3⟩
      rw [← k1]
      unfold f_Re_isSafe_10
      refine lp_step (s := ((m : Int), x, ((5 * ru + k : Nat) : Int))) ?_
      show f_Re_isSafe_10B w (ru : Int) x2 (m : Int) x ((5 * ru + k : Nat) : Int) = _
      unfold f_Re_isSafe_10B
      rw [gd_t ⟨by omega, by omega⟩, Int.toNat_natCast, hend, if_neg (by omega), e1]
  obtain ⟨v, k1, k2, k3⟩ := loop R.ln 0 0 1 (by omega) ⟨by omega, fun v _ => ⟨fun z => by simp at z, fun ⟨j, c, a, _⟩ => absurd a (by omega)⟩⟩ (Or.inr rfl) ⟨fun _ p hp => absurd hp (by omega), fun _ => rfl⟩
  refine ⟨v, ?_, ?_⟩
  · unfold f_Re_isSafe
    rw [bl_s, wr_of (x := 5 * (ru : Int)) ⟨by omega, by omega⟩]
    exact k1
  · rcases k2 with q | q
    · exact Or.inr ⟨q, fun z => by have := k3.mpr z; omega⟩
    · exact Or.inl ⟨q, k3.mp q⟩
