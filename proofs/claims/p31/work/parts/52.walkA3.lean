theorem tO_V {w : World} {b t p n : Nat} {a vs : Nat → Int} {s : Nat} (hkb : kdA b = 1) (hkt : kdA t = 6) : tO (setV w a) b t p n vs s = tO w b t p n vs s := by
  have h1 := kd1 hkb
  have h6 := kd6 hkt
  unfold tO
  rw [setV_ne (show 103 ≠ 104 by omega), setV_ne (show b + 3 ≠ 104 by omega), setV_ne (show t + 4 ≠ 104 by omega), setV_ne (show t + 3 ≠ 104 by omega)]
theorem takes82 {w : World} {b t p n : Nat} {v0 : Nat → Int} (hb : (w 103 1).toNat = b) (hkb : kdA b = 1) (ht : (w 103 2).toNat = t) (hkt : kdA t = 6) (hp : p < 5) (hn : n ≤ 3) (htm : ∀ c, c < 3 → -8 ≤ w (b + 3) (3 * p + c) ∧ w (b + 3) (3 * p + c) < 128) (hV : VV v0)
    {l : List Nat} {s : Int} (hs : seg (w (t + 2)) s l) (hl : l.length ≤ 48) (hx : ∀ x, x ∈ l → x < 48 ∧ 0 ≤ w (t + 3) x ∧ w (t + 3) x < 2097152) :
    f_Wa_takesTuple_82 (setV w v0) (p : Int) s (n : Int) 0 = match scan (tO w b t p n v0) l with
      | some (s', q, _) => some (up (up (setV w q.1) 106 p (q.2 : Int)) 105 p (s' : Int), 1)
      | none => some (setV w v0, 0) := by
  have h1 := kd1 hkb
  have h6 := kd6 hkt
  have e103 : setV w v0 103 = w 103 := setV_ne (by omega)
  have e2 : setV w v0 (t + 2) = w (t + 2) := setV_ne (by omega)
  have e3 : setV w v0 (t + 3) = w (t + 3) := setV_ne (by omega)
  have eb : setV w v0 (b + 3) = w (b + 3) := setV_ne (by omega)
  have h := takes_loop (w := setV w v0) (b := b) (t := t) (p := p) (n := n) (by rw [e103]; exact hb) hkb (by rw [e103]; exact ht) hkt hp hn (by rw [eb]; exact htm) (by rw [setV_104]; exact hV) l 0 s (by rw [e2]; exact hs) (by omega) (by rw [e3]; exact hx)
  rw [setV_104, show tO (setV w v0) b t p n v0 = tO w b t p n v0 from funext (fun s => tO_V hkb hkt)] at h
  have h0 : (((0 : Nat)) : Int) = 0 := rfl
  rw [h0] at h
  rw [h]
  cases scan (tO w b t p n v0) l with
  | none => rfl
  | some z =>
    obtain ⟨s', q, l'⟩ := z
    show some (up (up (setV (setV w v0) q.1) 106 p (q.2 : Int)) 105 p (s' : Int), 1) = some (up (up (setV w q.1) 106 p (q.2 : Int)) 105 p (s' : Int), 1)
    rw [setV_set]
/-- an atom that is to hold is tried: from the first tuple on -/
theorem takes_fresh {w : World} {b t p n r : Nat} {l : List Nat} (hb : (w 103 1).toNat = b) (hkb : kdA b = 1) (ht : (w 103 2).toNat = t) (hkt : kdA t = 6) (hp : p < 5) (hn : n ≤ 3) (htm : ∀ c, c < 3 → -8 ≤ w (b + 3) (3 * p + c) ∧ w (b + 3) (3 * p + c) < 128) (hV : VV (w 104)) (hsj : w (b + 2) p = (r : Int)) (hr : r < 10) (hco : w 3 r = (n : Int))
    (hs : seg (w (t + 2)) (w (t + 1) r) l) (hl : l.length ≤ 48) (hx : ∀ x, x ∈ l → x < 48 ∧ 0 ≤ w (t + 3) x ∧ w (t + 3) x < 2097152) (hf : w 103 5 ≠ 0) :
    f_Wa_takesTuple w (p : Int) = match scan (tO w b t p n (w 104)) l with
      | some (s', q, _) => some (up (up (setV w q.1) 106 p (q.2 : Int)) 105 p (s' : Int), 1)
      | none => some (setV w (w 104), 0) := by
  have h := takes82 hb hkb ht hkt hp hn htm hV hs hl hx
  rw [setV_self] at h
  rw [setV_self, ← h]
  unfold f_Wa_takesTuple f_Wa_takesTuple_51 f_Wa_takesTuple_69
  rw [hb, gd_t hkb, subjectOf_n hp, bnd_s, if_neg (by omega), if_pos (by omega), if_neg hf, ht, gd_t hkt, hsj, firstOf_n hr, bnd_s, if_neg hf, columnsOf_n hr, bnd_s, hco]
/-- .. from the one behind the tuple taken last -/
theorem takes_back {w : World} {b t p n r s m : Nat} {l : List Nat} (hb : (w 103 1).toNat = b) (hkb : kdA b = 1) (ht : (w 103 2).toNat = t) (hkt : kdA t = 6) (hp : p < 5) (hn : n ≤ 3) (htm : ∀ c, c < 3 → -8 ≤ w (b + 3) (3 * p + c) ∧ w (b + 3) (3 * p + c) < 128) (hm : m < 256) (hbd : w 106 p = (m : Int)) (hV : VV (ub (w 104) m)) (hsj : w (b + 2) p = (r : Int)) (hr : r < 10) (hco : w 3 r = (n : Int))
    (hsl : w 105 p = (s : Int)) (hs48 : s < 48) (hs : seg (w (t + 2)) (w (t + 2) s) l) (hl : l.length ≤ 48) (hx : ∀ x, x ∈ l → x < 48 ∧ 0 ≤ w (t + 3) x ∧ w (t + 3) x < 2097152) (hf : w 103 5 = 0) :
    f_Wa_takesTuple w (p : Int) = match scan (tO w b t p n (ub (w 104) m)) l with
      | some (s', q, _) => some (up (up (setV w q.1) 106 p (q.2 : Int)) 105 p (s' : Int), 1)
      | none => some (setV w (ub (w 104) m), 0) := by
  have h := takes82 hb hkb ht hkt hp hn htm hV hs hl hx
  rw [← h]
  have e3 : setV w (ub (w 104) m) 3 = w 3 := setV_ne (by omega)
  unfold f_Wa_takesTuple f_Wa_takesTuple_51 f_Wa_takesTuple_69
  rw [hb, gd_t hkb, subjectOf_n hp, bnd_s, if_neg (by omega), if_pos (by omega), if_pos hf, gd_t ⟨by omega, by omega⟩, ht, gd_t hkt, Int.toNat_natCast, hsl, nextOf_n hs48, bnd_s, if_pos hf, gd_t ⟨by omega, by omega⟩, hbd, unbind_n hm, bnd_s, hsj, columnsOf_n hr, bnd_s, e3, hco]
def m0 (x : Int) : Nat := (max 0 x).toNat
theorem imax_0 {x : Int} (h : -1 ≤ x) : imax 0 x = ((m0 x : Nat) : Int) := by
  unfold imax m0
  split <;> omega
/-- the tuple of an atom or of the head -/
def tn (w : World) (b p : Nat) (vs : Nat → Int) : Nat := pk (m0 (vl vs (w (b + 3) (3 * p)))) (m0 (vl vs (w (b + 3) (3 * p + 1)))) (m0 (vl vs (w (b + 3) (3 * p + 2))))
theorem tuple_n {w : World} {b p : Nat} (hb : (w 103 1).toNat = b) (hkb : kdA b = 1) (hp : p < 6) (htm : ∀ c, c < 3 → -8 ≤ w (b + 3) (3 * p + c) ∧ w (b + 3) (3 * p + c) < 128) (hV : VV (w 104)) : f_Wa_tuple w (p : Int) = some ((tn w b p (w 104) : Nat) : Int) := by
  have t0 := htm 0 (by omega); have t1 := htm 1 (by omega); have t2 := htm 2 (by omega)
  rw [Nat.add_zero (3 * p)] at t0
  have v0 := vl_rng hV t0; have v1 := vl_rng hV t1; have v2 := vl_rng hV t2
  have k0 := termOf_n (w := w) (b := b) (c := 0) hp (by omega)
  have k1 := termOf_n (w := w) (b := b) (c := 1) hp (by omega)
  have k2 := termOf_n (w := w) (b := b) (c := 2) hp (by omega)
  rw [show (((0 : Nat)) : Int) = 0 from rfl, Nat.add_zero (3 * p)] at k0
  rw [show (((1 : Nat)) : Int) = 1 from rfl] at k1
  rw [show (((2 : Nat)) : Int) = 2 from rfl] at k2
  unfold f_Wa_tuple
  rw [hb, gd_t hkb, k0, bnd_s, valueOf_n t0, bnd_s, gd_t hkb, k1, bnd_s, valueOf_n t1, bnd_s, gd_t hkb, k2, bnd_s, valueOf_n t2, bnd_s, imax_0 v0.1, imax_0 v1.1, imax_0 v2.1, packed_n (by unfold m0; omega) (by unfold m0; omega) (by unfold m0; omega), bnd_s]
  rfl
theorem tn_lt {w : World} {b p : Nat} {vs : Nat → Int} (htm : ∀ c, c < 3 → -8 ≤ w (b + 3) (3 * p + c) ∧ w (b + 3) (3 * p + c) < 128) (hV : VV vs) : tn w b p vs < 2097152 := by
  have t0 : -8 ≤ w (b + 3) (3 * p) ∧ w (b + 3) (3 * p) < 128 := htm 0 (by omega)
  have v0 := vl_rng hV t0; have v1 := vl_rng hV (htm 1 (by omega)); have v2 := vl_rng hV (htm 2 (by omega))
  exact pkq_lt (by unfold m0; omega) (by unfold m0; omega) (by unfold m0; omega)
def cmpI (how a b : Int) : Prop := if how = 0 then a = b else if how = 1 then a ≠ b else if how = 2 then a < b else a ≤ b
theorem isSo_n {how a b : Int} : ∃ v : Int, f_Wa_isSo how a b = some v ∧ ((v = 1 ∧ cmpI how a b) ∨ (v = 0 ∧ ¬ cmpI how a b)) := by
  unfold f_Wa_isSo cmpI f_Wa_isSo_9 f_Wa_isSo_19 f_Wa_isSo_28
  by_cases h0 : how = 0
  · subst h0
    by_cases h : a = b <;> simp [h]
  · by_cases h1 : how = 1
    · subst h1
      by_cases h : a = b <;> simp [h]
    · by_cases h2 : how = 2
      · subst h2
        by_cases h : a < b
        · have : ¬ b ≤ a := by omega
          simp [h, this]
        · have : b ≤ a := by omega
          simp [h, this]
      · by_cases h : a ≤ b
        · have : ¬ b < a := by omega
          simp [h0, h1, h2, h, this]
        · have : b < a := by omega
          simp [h0, h1, h2, h, this]
/-- what a literal that no tuple is taken for binds -/
noncomputable def pO (w : World) (b p N : Nat) (ρ c : Nat → Nat) (vs : Nat → Int) : Option ((Nat → Int) × Nat) := by
  classical
  exact (
    if w (b + 1) p = 1 then (if AM N ρ c (w (b + 2) p) (tn w b p vs) then none else some (vs, 0))
    else if w (b + 1) p = 2 then (if cmpI (w (b + 2) p) (vl vs (w (b + 3) (3 * p))) (vl vs (w (b + 3) (3 * p + 1))) then some (vs, 0) else none)
    else if vl vs (w (b + 3) (3 * p)) = -1 then some (bd vs (w (b + 3) (3 * p)) (min 127 (vl vs (w (b + 3) (3 * p + 1)) + vl vs (w (b + 3) (3 * p + 2)))), vb (w (b + 3) (3 * p)))
    else if vl vs (w (b + 3) (3 * p)) = min 127 (vl vs (w (b + 3) (3 * p + 1)) + vl vs (w (b + 3) (3 * p + 2))) then some (vs, 0) else none)
/-- such a literal, come to from ahead -/
theorem passes_fresh {w : World} {b t p N : Nat} {ρ c : Nat → Nat} {L : Nat → List Nat} (hb : (w 103 1).toNat = b) (hkb : kdA b = 1) (ht : (w 103 2).toNat = t) (hkt : kdA t = 6) (hp : p < 5) (htm : ∀ c, c < 3 → -8 ≤ w (b + 3) (3 * p + c) ∧ w (b + 3) (3 * p + c) < 128) (hV : VV (w 104)) (hS : WfS w) (hA : AMod w t N ρ c L) (hfm : w (b + 1) p ≠ 0)
    (hat : w (b + 1) p = 1 → ∃ r : Nat, w (b + 2) p = (r : Int) ∧ r < 10 ∧ 1 ≤ w 3 r) (hf : w 103 5 ≠ 0) :
    f_Wa_passes w (p : Int) = match pO w b p N ρ c (w 104) with
      | some q => some (up (setV w q.1) 106 p (q.2 : Int), 1)
      | none => some (up w 106 p 0, 0) := by
  classical
  have h1 := kd1 hkb
  have h6 := kd6 hkt
  obtain ⟨v5, hv5⟩ : ∃ v5, v5 = up w 106 p 0 := ⟨_, rfl⟩
  have f5 : ∀ c', c' ≠ 106 → v5 c' = w c' := fun c' hc => by rw [hv5]; funext k; simp [up, hc]
  have e103 := f5 103 (by omega)
  have eb1 := f5 (b + 1) (by omega)
  have eb2 := f5 (b + 2) (by omega)
  have eb3 := f5 (b + 3) (by omega)
  have e104 := f5 104 (by omega)
  have t0 := htm 0 (by omega); have t1 := htm 1 (by omega); have t2 := htm 2 (by omega)
  rw [Nat.add_zero (3 * p)] at t0
  have k0 := termOf_n (w := v5) (b := b) (c := 0) (show p < 6 by omega) (by omega)
  have k1 := termOf_n (w := v5) (b := b) (c := 1) (show p < 6 by omega) (by omega)
  have k2 := termOf_n (w := v5) (b := b) (c := 2) (show p < 6 by omega) (by omega)
  rw [show (((0 : Nat)) : Int) = 0 from rfl, eb3, Nat.add_zero (3 * p)] at k0
  rw [show (((1 : Nat)) : Int) = 1 from rfl, eb3] at k1
  rw [show (((2 : Nat)) : Int) = 2 from rfl, eb3] at k2
  have hsV : setV v5 (w 104) = v5 := by rw [← e104, setV_self]
  have r0 := vl_rng hV t0; have r1 := vl_rng hV t1; have r2 := vl_rng hV t2
  have hup : up (setV w (w 104)) 106 p ((0 : Nat) : Int) = v5 := by rw [setV_self, hv5]; rfl
  unfold f_Wa_passes pO
  rw [if_neg hf, noteBound_n hp, bnd_s, ← hv5, e103, hb, ht]
  rw [gd_t hkb, formOf_n hp, bnd_s, eb1]
  by_cases f1 : w (b + 1) p = 1
  · rw [if_pos f1, if_pos f1]
    obtain ⟨r, hr, hr10, hrd⟩ := hat f1
    have hS5 : WfS v5 := WfS_congr (fun c' h3 h4 k => by rw [f5 c' (by omega)]) hS
    have hSA : SA v5 = SA w := SA_congr (fun c' h3 h4 k => by rw [f5 c' (by omega)])
    have hA5 : AMod v5 t N ρ c L := by
      obtain ⟨a1, a2, a3, a4, a5, a6⟩ := hA
      refine ⟨by rw [f5 t (by omega)]; exact a1, a2, fun q hq => by rw [f5 (t + 2) (by omega), f5 (t + 1) (by omega)]; exact a3 q hq, a4, fun s hs => by rw [f5 3 (by omega), f5 (t + 3) (by omega)]; exact a5 s hs, by rw [hSA]; exact a6⟩
    have htn : tn v5 b p (w 104) = tn w b p (w 104) := by unfold tn; rw [eb3]
    have hlt := tn_lt (w := w) (b := b) (p := p) htm hV
    have htup := tuple_n (w := v5) (b := b) (p := p) (by rw [e103]; exact hb) hkb (by omega) (by rw [eb3]; exact htm) (by rw [e104]; exact hV)
    rw [e104, htn] at htup
    rw [gd_t hkb, subjectOf_n hp, bnd_s, htup, bnd_s, gd_t hkt, eb2, hr]
    rcases slotLike_n hS5 hA5 hr10 (by rw [f5 3 (by omega)]; exact hrd) hlt with ⟨x, hx, hρ, hz, he⟩ | ⟨hz, he⟩
    · have hsx := hA5.2.2.2.2.1 x hx
      have hN := hA5.2.1
      rw [he, bnd_s, if_neg (by omega), gd_t hkt, codeOf_n (by omega), bnd_s, bnd_s, hsx.2.1]
      by_cases hc : c x = tn w b p (w 104)
      · rw [if_pos (by rw [hc]), if_pos ⟨x, hx, by rw [hρ], hc⟩]
      · have hn : ¬ AM N ρ c (r : Int) (tn w b p (w 104)) := by
          intro hAM
          have hok := AM_OkM hA5
          exact hc (hok.2 (r : Int) _ _ ⟨x, hx, by rw [hρ], rfl⟩ hAM hz)
        rw [if_neg (fun e => hc (by exact Int.ofNat.inj e)), if_neg hn]
        unfold f_Wa_passes_80
        show _ = some (up (setV w (w 104)) 106 p ((0 : Nat) : Int), 1)
        rw [hup]
    · have hn : ¬ AM N ρ c (r : Int) (tn w b p (w 104)) := by
        rintro ⟨x, hx, hρ, hc⟩
        exact hz x hx (by omega) (by rw [hc])
      rw [he, bnd_s, if_pos rfl, if_neg hn]
      unfold f_Wa_passes_80
      show _ = some (up (setV w (w 104)) 106 p ((0 : Nat) : Int), 1)
      rw [hup]
  · rw [if_neg f1, if_neg f1, gd_t hkb, k0, bnd_s, valueOf_n t0, bnd_s, gd_t hkb, k1, bnd_s, valueOf_n t1, bnd_s, e104]
    by_cases f2 : w (b + 1) p = 2
    · rw [if_pos f2, if_pos f2, gd_t hkb, subjectOf_n hp, bnd_s, eb2]
      obtain ⟨v, hv, hv2⟩ := isSo_n (how := w (b + 2) p) (a := vl (w 104) (w (b + 3) (3 * p))) (b := vl (w 104) (w (b + 3) (3 * p + 1)))
      rw [hv, bnd_s]
      rcases hv2 with ⟨rfl, hc⟩ | ⟨rfl, hc⟩
      · rw [gd_t (Or.inr rfl), if_pos hc]
        show _ = some (up (setV w (w 104)) 106 p ((0 : Nat) : Int), 1)
        rw [hup]
      · rw [gd_t (Or.inl rfl), if_neg hc]
    · rw [if_neg f2, if_neg f2, gd_t hkb, k2, bnd_s, valueOf_n t2, bnd_s, bl_s, e104, wr_of (x := vl (w 104) (w (b + 3) (3 * p + 1)) + vl (w 104) (w (b + 3) (3 * p + 2))) ⟨by omega, by omega⟩]
      have hmin : imin 127 (vl (w 104) (w (b + 3) (3 * p + 1)) + vl (w 104) (w (b + 3) (3 * p + 2))) = min 127 (vl (w 104) (w (b + 3) (3 * p + 1)) + vl (w 104) (w (b + 3) (3 * p + 2))) := by
        unfold imin
        split <;> omega
      rw [hmin]
      by_cases f3 : vl (w 104) (w (b + 3) (3 * p)) = -1
      · rw [if_pos f3, if_pos f3, bindIfFree_n t0, bnd_s, variableBit_n t0, bnd_s, noteBound_n hp, bnd_s]
        unfold f_Wa_passes_184 f_Wa_passes_197
        rw [if_pos f3, e104]
        have : up (setV v5 (bd (w 104) (w (b + 3) (3 * p)) (min 127 (vl (w 104) (w (b + 3) (3 * p + 1)) + vl (w 104) (w (b + 3) (3 * p + 2)))))) 106 p ((vb (w (b + 3) (3 * p)) : Nat) : Int) = up (setV w (bd (w 104) (w (b + 3) (3 * p)) (min 127 (vl (w 104) (w (b + 3) (3 * p + 1)) + vl (w 104) (w (b + 3) (3 * p + 2)))))) 106 p ((vb (w (b + 3) (3 * p)) : Nat) : Int) := by
          rw [hv5]
          funext c' k'
          unfold up setV
          by_cases q : c' = 106 ∧ k' = p
          · rw [if_pos q, if_pos q]
          · rw [if_neg q, if_neg q]
            by_cases q2 : c' = 104
            · rw [if_pos q2, if_pos q2]
            · rw [if_neg q2, if_neg q2]
              exact if_neg q
        rw [this]
      · rw [if_neg f3, if_neg f3]
        unfold f_Wa_passes_184 f_Wa_passes_197
        rw [if_neg f3]
        by_cases f4 : vl (w 104) (w (b + 3) (3 * p)) = min 127 (vl (w 104) (w (b + 3) (3 * p + 1)) + vl (w 104) (w (b + 3) (3 * p + 2)))
        · rw [if_pos f4, if_pos f4]
          show _ = some (up (setV w (w 104)) 106 p ((0 : Nat) : Int), 1)
          rw [hup]
        · rw [if_neg f4, if_neg f4]
/-- .. from behind -/
theorem passes_back {w : World} {p m : Nat} (hp : p < 5) (hm : m < 256) (hbd : w 106 p = (m : Int)) (hf : w 103 5 = 0) : f_Wa_passes w (p : Int) = some (setV w (ub (w 104) m), 0) := by
  unfold f_Wa_passes
  rw [if_pos hf, boundAt_n hp, bnd_s, hbd, unbind_n hm, bnd_s]
