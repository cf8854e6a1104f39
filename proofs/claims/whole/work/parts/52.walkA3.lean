theorem tO_V {w : World} {b t p n : Nat} {a vs : Nat → Int} {s : Nat} (hkb : kdA b = 1) (hkt : kdA t = 6) : tO (setV w a) b t p n vs s = tO w b t p n vs s := by
  have h1 := kd1 hkb
  have h6 := kd6 hkt
  unfold tO
  rw [setV_ne (show 103 ≠ 104 by omega), setV_ne (show b + 3 ≠ 104 by omega), setV_ne (show t + 4 ≠ 104 by omega), setV_ne (show t + 3 ≠ 104 by omega)]
theorem takes82 {w : World} {b t p n : Nat} {v0 : Nat → Int} (hb : (w 103 1).toNat = b) (hkb : kdA b = 1) (ht : (w 103 2).toNat = t) (hkt : kdA t = 6) (hp : p < 5) (hn : n ≤ 3) (htm : ∀ c, c < 3 → -8 ≤ w (b + 3) (3 * p + c) ∧ w (b + 3) (3 * p + c) < 128) (hV : VV v0)
    {l : List Nat} {s : Int} (hs : seg (w (t + 2)) s l) (hl : l.length ≤ 48) (hx : ∀ x, x ∈ l → x < 48 ∧ 0 ≤ w (t + 3) x ∧ w (t + 3) x < 2097152) :
    f_Wa_takesTuple_82 (setV w v0) (p : Int) s (n : Int) 0 = match scan (tO w b t p n v0) l with
      | some (s', q, _) => some (up (up (setV w q.1) 106 p (q.2 : Int)) 105 p (s' : Int), 1)
      | none => some (setV w v0, 0) := by
  have h1 := kd1 hkb
  have h6 := kd6 hkt
  have e103 : setV w v0 103 = w 103 := setV_ne (by omega)
  have e2 : setV w v0 (t + 2) = w (t + 2) := setV_ne (by omega)
  have e3 : setV w v0 (t + 3) = w (t + 3) := setV_ne (by omega)
  have eb : setV w v0 (b + 3) = w (b + 3) := setV_ne (by omega)
  have h := takes_loop (w := setV w v0) (b := b) (t := t) (p := p) (n := n) (by rw [e103]; exact hb) hkb (by rw [e103]; exact ht) hkt hp hn (by rw [eb]; exact htm) (by rw [setV_104]; exact hV) l 0 s (by rw [e2]; exact hs) (by omega) (by rw [e3]; exact hx)
  rw [setV_104, show tO (setV w v0) b t p n v0 = tO w b t p n v0 from funext (fun s => tO_V hkb hkt)] at h
  have h0 : (((0 : Nat)) : Int) = 0 := rfl
  rw [h0] at h
  rw [h]
  cases scan (tO w b t p n v0) l with
  | none => rfl
  | some z => rw [setV_set]
/-- an atom that is to hold is tried: from the first tuple on -/
theorem takes_fresh {w : World} {b t p n r : Nat} {l : List Nat} (hb : (w 103 1).toNat = b) (hkb : kdA b = 1) (ht : (w 103 2).toNat = t) (hkt : kdA t = 6) (hp : p < 5) (hn : n ≤ 3) (htm : ∀ c, c < 3 → -8 ≤ w (b + 3) (3 * p + c) ∧ w (b + 3) (3 * p + c) < 128) (hV : VV (w 104)) (hsj : w (b + 2) p = (r : Int)) (hr : r < 10) (hco : w 3 r = (n : Int))
    (hs : seg (w (t + 2)) (w (t + 1) r) l) (hl : l.length ≤ 48) (hx : ∀ x, x ∈ l → x < 48 ∧ 0 ≤ w (t + 3) x ∧ w (t + 3) x < 2097152) (hf : w 103 5 ≠ 0) :
    f_Wa_takesTuple w (p : Int) = match scan (tO w b t p n (w 104)) l with
      | some (s', q, _) => some (up (up (setV w q.1) 106 p (q.2 : Int)) 105 p (s' : Int), 1)
      | none => some (setV w (w 104), 0) := by
  have h := takes82 hb hkb ht hkt hp hn htm hV hs hl hx
  rw [setV_self] at h
  rw [setV_self, ← h]
  unfold f_Wa_takesTuple f_Wa_takesTuple_51 f_Wa_takesTuple_69
  rw [hb, gd_t hkb, subjectOf_n hp, bnd_s, if_neg (by omega), if_pos (by omega), if_neg hf, ht, gd_t hkt, hsj, firstOf_n hr, bnd_s, if_neg hf, columnsOf_n hr, bnd_s, hco]
/-- .. from the one behind the tuple taken last -/
theorem takes_back {w : World} {b t p n r s m : Nat} {l : List Nat} (hb : (w 103 1).toNat = b) (hkb : kdA b = 1) (ht : (w 103 2).toNat = t) (hkt : kdA t = 6) (hp : p < 5) (hn : n ≤ 3) (htm : ∀ c, c < 3 → -8 ≤ w (b + 3) (3 * p + c) ∧ w (b + 3) (3 * p + c) < 128) (hm : m < 256) (hbd : w 106 p = (m : Int)) (hV : VV (ub (w 104) m)) (hsj : w (b + 2) p = (r : Int)) (hr : r < 10) (hco : w 3 r = (n : Int))
    (hsl : w 105 p = (s : Int)) (hs48 : s < 48) (hs : seg (w (t + 2)) (w (t + 2) s) l) (hl : l.length ≤ 48) (hx : ∀ x, x ∈ l → x < 48 ∧ 0 ≤ w (t + 3) x ∧ w (t + 3) x < 2097152) (hf : w 103 5 = 0) :
    f_Wa_takesTuple w (p : Int) = match scan (tO w b t p n (ub (w 104) m)) l with
      | some (s', q, _) => some (up (up (setV w q.1) 106 p (q.2 : Int)) 105 p (s' : Int), 1)
      | none => some (setV w (ub (w 104) m), 0) := by
  have h := takes82 hb hkb ht hkt hp hn htm hV hs hl hx
  rw [← h]
  have e3 : setV w (ub (w 104) m) 3 = w 3 := setV_ne (by omega)
  unfold f_Wa_takesTuple f_Wa_takesTuple_51 f_Wa_takesTuple_69
  rw [hb, gd_t hkb, subjectOf_n hp, bnd_s, if_neg (by omega), if_pos (by omega), if_pos hf, gd_t ⟨by omega, by omega⟩, ht, gd_t hkt, Int.toNat_natCast, hsl, nextOf_n hs48, bnd_s, if_pos hf, gd_t ⟨by omega, by omega⟩, Int.toNat_natCast, hbd, unbind_n hm, bnd_s, hsj, columnsOf_n hr, bnd_s, e3, hco]
def m0 (x : Int) : Nat := (max 0 x).toNat
theorem imax_0 {x : Int} (h : -1 ≤ x) : imax 0 x = ((m0 x : Nat) : Int) := by
  unfold imax m0
  split <;> omega
/-- the tuple of an atom or of the head -/
def tn (w : World) (b p : Nat) (vs : Nat → Int) : Nat := pk (m0 (vl vs (w (b + 3) (3 * p)))) (m0 (vl vs (w (b + 3) (3 * p + 1)))) (m0 (vl vs (w (b + 3) (3 * p + 2))))
theorem tuple_n {w : World} {b p : Nat} (hb : (w 103 1).toNat = b) (hkb : kdA b = 1) (hp : p < 6) (htm : ∀ c, c < 3 → -8 ≤ w (b + 3) (3 * p + c) ∧ w (b + 3) (3 * p + c) < 128) (hV : VV (w 104)) : f_Wa_tuple w (p : Int) = some ((tn w b p (w 104) : Nat) : Int) := by
  have t0 := htm 0 (by omega); have t1 := htm 1 (by omega); have t2 := htm 2 (by omega)
  have v0 := vl_rng hV t0; have v1 := vl_rng hV t1; have v2 := vl_rng hV t2
  have k0 := termOf_n (w := w) (b := b) (c := 0) hp (by omega)
  have k1 := termOf_n (w := w) (b := b) (c := 1) hp (by omega)
  have k2 := termOf_n (w := w) (b := b) (c := 2) hp (by omega)
  rw [show (((0 : Nat)) : Int) = 0 from rfl] at k0
  rw [show (((1 : Nat)) : Int) = 1 from rfl] at k1
  rw [show (((2 : Nat)) : Int) = 2 from rfl] at k2
  unfold f_Wa_tuple
  rw [hb, gd_t hkb, gd_t hkb, gd_t hkb, k0, bnd_s, valueOf_n t0, bnd_s, k1, bnd_s, valueOf_n t1, bnd_s, k2, bnd_s, valueOf_n t2, bnd_s, imax_0 v0.1, imax_0 v1.1, imax_0 v2.1, packed_n (by unfold m0; omega) (by unfold m0; omega) (by unfold m0; omega), bnd_s]
  rfl
theorem tn_lt {w : World} {b p : Nat} {vs : Nat → Int} (htm : ∀ c, c < 3 → -8 ≤ w (b + 3) (3 * p + c) ∧ w (b + 3) (3 * p + c) < 128) (hV : VV vs) : tn w b p vs < 2097152 := by
  have v0 := vl_rng hV (htm 0 (by omega)); have v1 := vl_rng hV (htm 1 (by omega)); have v2 := vl_rng hV (htm 2 (by omega))
  exact pkq_lt (by unfold m0; omega) (by unfold m0; omega) (by unfold m0; omega)
def cmpI (how a b : Int) : Prop := if how = 0 then a = b else if how = 1 then a ≠ b else if how = 2 then a < b else a ≤ b
theorem isSo_n {how a b : Int} : ∃ v : Int, f_Wa_isSo how a b = some v ∧ ((v = 1 ∧ cmpI how a b) ∨ (v = 0 ∧ ¬ cmpI how a b)) := by
  unfold f_Wa_isSo cmpI f_Wa_isSo_9 f_Wa_isSo_19 f_Wa_isSo_28
  by_cases h0 : how = 0
  · subst h0
    by_cases h : a = b <;> simp [h]
  · by_cases h1 : how = 1
    · subst h1
      by_cases h : a = b <;> simp [h]
    · by_cases h2 : how = 2
      · subst h2
        by_cases h : a < b
        · have : ¬ b ≤ a := by omega
          simp [h, this]
        · have : b ≤ a := by omega
          simp [h, this]
      · by_cases h : a ≤ b
        · have : ¬ b < a := by omega
          simp [h0, h1, h2, h, this]
        · have : b < a := by omega
          simp [h0, h1, h2, h, this]
open Classical in
/-- what a literal that no tuple is taken for binds -/
noncomputable def pO (w : World) (b p N : Nat) (ρ c : Nat → Nat) (vs : Nat → Int) : Option ((Nat → Int) × Nat) :=
  if w (b + 1) p = 1 then (if AM N ρ c (w (b + 2) p) (tn w b p vs) then none else some (vs, 0))
  else if w (b + 1) p = 2 then (if cmpI (w (b + 2) p) (vl vs (w (b + 3) (3 * p))) (vl vs (w (b + 3) (3 * p + 1))) then some (vs, 0) else none)
  else if vl vs (w (b + 3) (3 * p)) = -1 then some (bd vs (w (b + 3) (3 * p)) (min 127 (vl vs (w (b + 3) (3 * p + 1)) + vl vs (w (b + 3) (3 * p + 2)))), vb (w (b + 3) (3 * p)))
  else if vl vs (w (b + 3) (3 * p)) = min 127 (vl vs (w (b + 3) (3 * p + 1)) + vl vs (w (b + 3) (3 * p + 2))) then some (vs, 0) else none
