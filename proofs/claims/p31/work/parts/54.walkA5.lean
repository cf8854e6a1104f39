/-! THE CLASS'S WALK: the stack of what is taken; a step -/
theorem FrW.cell {w w' : World} (h : FrW w w') {c : Nat} (hc : c < 103 ∨ 106 < c) : w' c = w c := funext (fun k => h c k (by omega) (by omega) (by omega) (by omega))
theorem FrW.f {w w' : World} (h : FrW w w') {k : Nat} (hk : k ≠ 4 ∧ k ≠ 5) : w' 103 k = w 103 k := h 103 k (by omega) (by omega) (by omega) (by omega)
theorem pl_congr {w w' : World} (h : FrW w w') {d : Nat} : pl w' d = pl w d := by
  unfold pl
  rw [h.f ⟨by omega, by omega⟩]
theorem oc_congr {w w' : World} {b t N d : Nat} {ρ c : Nat → Nat} {vs : Nat → Int} {s : Nat} (h : FrW w w') (hkb : kdA b = 1) (hkt : kdA t = 6) : oc w' b t N ρ c d vs s = oc w b t N ρ c d vs s := by
  have h1 := kd1 hkb
  have h6 := kd6 hkt
  unfold oc tO pO tn
  rw [pl_congr h, h.cell (show b + 1 < 103 ∨ _ by omega), h.cell (show b + 2 < 103 ∨ _ by omega), h.cell (show b + 3 < 103 ∨ _ by omega), h.cell (show 3 < 103 ∨ _ by omega), h.cell (show t + 4 < 103 ∨ 106 < t + 4 by omega), h.cell (show t + 3 < 103 ∨ 106 < t + 3 by omega), h.f ⟨by omega, by omega⟩, h.f ⟨by omega, by omega⟩]
theorem cnd_congr {w w' : World} {b d : Nat} {L : Nat → List Nat} (h : FrW w w') (hkb : kdA b = 1) : cnd w' b L d = cnd w b L d := by
  have h1 := kd1 hkb
  unfold cnd
  rw [pl_congr h, h.cell (show b + 1 < 103 ∨ _ by omega), h.cell (show b + 2 < 103 ∨ _ by omega)]
theorem AMod_congr {w w' : World} {t n : Nat} {ρ c : Nat → Nat} {L : Nat → List Nat} (hS : ∀ c, 3 ≤ c → c ≤ 6 → w' c = w c) (ht : ∀ c, t ≤ c → c ≤ t + 4 → w' c = w c) (h : AMod w t n ρ c L) : AMod w' t n ρ c L := by
  have hSA : SA w' = SA w := SA_congr (fun c a b k => by rw [hS c a b])
  obtain ⟨a1, a2, a3, a4, a5, a6⟩ := h
  refine ⟨by rw [ht t (by omega) (by omega)]; exact a1, a2, fun q hq => by rw [ht (t + 2) (by omega) (by omega), ht (t + 1) (by omega) (by omega)]; exact a3 q hq, a4, fun s hs => by rw [hS 3 (by omega) (by omega), ht (t + 3) (by omega) (by omega)]; exact a5 s hs, by rw [hSA]; exact a6⟩
theorem WkC_congr {w w' : World} {b t E N : Nat} {ρ c : Nat → Nat} {L : Nat → List Nat} (h : FrW w w') (hC : WkC w b t E N ρ c L) : WkC w' b t E N ρ c L := by
  obtain ⟨hb, hkb, ht, hkt, hE, hE5, hl, hS, hA, hL, hsafe⟩ := hC
  have h1 := kd1 hkb
  have h6 := kd6 hkt
  have e1 := h.cell (show b + 1 < 103 ∨ 106 < b + 1 by omega)
  have e2 := h.cell (show b + 2 < 103 ∨ 106 < b + 2 by omega)
  have e3 := h.cell (show b + 3 < 103 ∨ 106 < b + 3 by omega)
  refine ⟨by rw [h.f ⟨by omega, by omega⟩]; exact hb, hkb, by rw [h.f ⟨by omega, by omega⟩]; exact ht, hkt, by rw [h.f ⟨by omega, by omega⟩]; exact hE, hE5, by rw [h.f ⟨by omega, by omega⟩]; exact hl, WfS_congr (fun c a b k => by rw [h.cell (by omega)]) hS, AMod_congr (fun c a b => h.cell (by omega)) (fun c a b => h.cell (by omega)) hA, ?_, ?_⟩
  · rw [e1, e2, e3, h.cell (show 3 < 103 ∨ 106 < 3 by omega)]
    exact hL
  · intro d hd
    have := hsafe d hd
    simp only [pl_congr h]
    rw [e1, e3]
    exact this
theorem Cov_congr {w w' : World} {b d : Nat} {vs : Nat → Int} (h : FrW w w') (hkb : kdA b = 1) (hc : Cov w b d vs) : Cov w' b d vs := by
  have h1 := kd1 hkb
  unfold Cov
  simp only [pl_congr h]
  rw [h.cell (show b + 1 < 103 ∨ 106 < b + 1 by omega), h.cell (show b + 3 < 103 ∨ 106 < b + 3 by omega)]
  exact hc
theorem scan_some {O : Nat → Option ((Nat → Int) × Nat)} : ∀ {l : List Nat} {s : Nat} {q : (Nat → Int) × Nat} {rest : List Nat}, scan O l = some (s, q, rest) → O s = some q ∧ ∃ pre, l = pre ++ s :: rest ∧ ∀ x, x ∈ pre → O x = none := by
  intro l
  induction l with
  | nil => intro s q rest h; cases h
  | cons a l ih =>
    intro s q rest h
    unfold scan at h
    cases hO : O a with
    | some q' =>
      rw [hO] at h
      cases h
      exact ⟨hO, [], rfl, fun x hx => (by cases hx)⟩
    | none =>
      rw [hO] at h
      obtain ⟨h1, pre, h2, h3⟩ := ih h
      refine ⟨h1, a :: pre, by rw [h2]; rfl, fun x hx => ?_⟩
      rcases List.mem_cons.mp hx with e | hx
      · rw [e]; exact hO
      · exact h3 x hx
theorem scan_none {O : Nat → Option ((Nat → Int) × Nat)} : ∀ {l : List Nat}, scan O l = none → ∀ x, x ∈ l → O x = none := by
  intro l
  induction l with
  | nil => intro _ x hx; cases hx
  | cons a l ih =>
    intro h x hx
    unfold scan at h
    cases hO : O a with
    | some q' => rw [hO] at h; cases h
    | none =>
      rw [hO] at h
      rcases List.mem_cons.mp hx with e | hx
      · rw [e]; exact hO
      · exact ih h x hx
theorem seg_suffix {nx : Nat → Int} {pre : List Nat} {s : Nat} {rest : List Nat} {a : Int} (h : seg nx a (pre ++ s :: rest)) : seg nx (nx s) rest := by
  obtain ⟨m, -, h2⟩ := seg_app.mp h
  exact h2.2
/-- what a literal gives: from values v0, through the slots l -/
theorem lit_res {w : World} {b t E N d : Nat} {ρ c : Nat → Nat} {L : Nat → List Nat} {v0 : Nat → Int} {l : List Nat} (hC : WkC w b t E N ρ c L) (hd : d < E) (hV : VV v0)
    (hstart : (w 103 5 ≠ 0 ∧ v0 = w 104 ∧ l = cnd w b L d) ∨ (w 103 5 = 0 ∧ ∃ (m s : Nat) (pre : List Nat), m < 256 ∧ w 106 (pl w d) = (m : Int) ∧ v0 = ub (w 104) m ∧ cnd w b L d = pre ++ s :: l ∧ (w (b + 1) (pl w d) = 0 → w 105 (pl w d) = (s : Int)))) :
    ∃ w1 a, (if w (b + 1) (pl w d) = 0 then f_Wa_takesTuple w ((pl w d : Nat) : Int) else f_Wa_passes w ((pl w d : Nat) : Int)) = some (w1, a) ∧ (∀ c k, c ≠ 104 → ¬ (c = 105 ∧ k = pl w d) → ¬ (c = 106 ∧ k = pl w d) → w1 c k = w c k) ∧
    match scan (oc w b t N ρ c d v0) l with
    | none => a = 0 ∧ w1 104 = v0
    | some (s, q, _) => a = 1 ∧ w1 104 = q.1 ∧ w1 106 (pl w d) = (q.2 : Int) ∧ (w (b + 1) (pl w d) = 0 → w1 105 (pl w d) = (s : Int)) := by
  have hC0 := hC
  obtain ⟨hb, hkb, ht, hkt, hE, hE5, hl, hS, hA, hL, hsafe⟩ := hC
  have hp := pl_lt (w := w) hd hl
  obtain ⟨htm, hfm, hsj⟩ := hL (pl w d) hp
  have hA' := hA
  obtain ⟨a1, a2, a3, a4, a5, a6⟩ := hA
  have frV : ∀ (vs : Nat → Int) (m : Int) (s : Int) (c k : Nat), c ≠ 104 → ¬ (c = 105 ∧ k = pl w d) → ¬ (c = 106 ∧ k = pl w d) → up (up (setV w vs) 106 (pl w d) m) 105 (pl w d) s c k = w c k := fun vs m s c k h1 h2 h3 => by
    unfold up setV
    rw [if_neg h2, if_neg h3, if_neg h1]
  have frV2 : ∀ (vs : Nat → Int) (m : Int) (c k : Nat), c ≠ 104 → ¬ (c = 106 ∧ k = pl w d) → up (setV w vs) 106 (pl w d) m c k = w c k := fun vs m c k h1 h3 => by
    unfold up setV
    rw [if_neg h3, if_neg h1]
  have frV3 : ∀ (vs : Nat → Int) (c k : Nat), c ≠ 104 → setV w vs c k = w c k := fun vs c k h1 => by
    unfold setV
    rw [if_neg h1]
  by_cases f0 : w (b + 1) (pl w d) = 0
  · rw [if_pos f0]
    obtain ⟨r, hr, hr10, hrd, hz⟩ := hsj (by omega)
    have hS3 := (hS r hr10).1
    have hcnd : cnd w b L d = L r := by unfold cnd; rw [if_pos f0, hr, Int.toNat_natCast]
    have hoc : oc w b t N ρ c d v0 = tO w b t (pl w d) (w 3 r).toNat v0 := by funext s; unfold oc; rw [if_pos f0, hr, Int.toNat_natCast]
    have hlen := hA'.len hr10
    have hmem : ∀ x, x ∈ L r → x < 48 ∧ 0 ≤ w (t + 3) x ∧ w (t + 3) x < 2097152 := fun x hx => by
      have h1 := (a4 r x hr10).mp hx
      have h2 := a5 x h1.1
      omega
    rw [hoc]
    rcases hstart with ⟨hf, rfl, rfl⟩ | ⟨hf, m, s, pre, hm, hbd, rfl, hpre, hsl⟩
    · have h := takes_fresh (n := (w 3 r).toNat) (l := cnd w b L d) hb hkb ht hkt (by omega) (by omega) htm hV hr hr10 (by omega) (by rw [hcnd]; exact a3 r hr10) (by rw [hcnd]; omega) (by rw [hcnd]; exact hmem) hf
      rw [h]
      cases hs : scan (tO w b t (pl w d) (w 3 r).toNat (w 104)) (cnd w b L d) with
      | none => exact ⟨_, _, rfl, fun c k h1 _ _ => frV3 _ c k h1, rfl, setV_104⟩
      | some z =>
        obtain ⟨s', q, rest⟩ := z
        refine ⟨_, _, rfl, fun c k h1 h2 h3 => frV _ _ _ c k h1 h2 h3, rfl, ?_, ?_, fun _ => ?_⟩
        · funext k; simp [up, setV]
        · simp [up, setV]
        · simp [up]
    · have hs := hsl f0
      have hsm := hmem s (by rw [← hcnd, hpre]; exact List.mem_append_right _ List.mem_cons_self)
      have hseg := a3 r hr10
      rw [← hcnd, hpre] at hseg
      have hsub : ∀ x, x ∈ l → x ∈ L r := fun x hx => by rw [← hcnd, hpre]; exact List.mem_append_right _ (List.mem_cons_of_mem _ hx)
      have hll : l.length ≤ 48 := by
        have : (cnd w b L d).length ≤ 48 := by rw [hcnd]; omega
        rw [hpre, List.length_append, List.length_cons] at this
        omega
      have h := takes_back (n := (w 3 r).toNat) (l := l) hb hkb ht hkt (by omega) (by omega) htm hm hbd hV hr hr10 (by omega) hs hsm.1 (seg_suffix hseg) hll (fun x hx => hmem x (hsub x hx)) hf
      rw [h]
      cases hsc : scan (tO w b t (pl w d) (w 3 r).toNat (ub (w 104) m)) l with
      | none => exact ⟨_, _, rfl, fun c k h1 _ _ => frV3 _ c k h1, rfl, setV_104⟩
      | some z =>
        obtain ⟨s', q, rest⟩ := z
        refine ⟨_, _, rfl, fun c k h1 h2 h3 => frV _ _ _ c k h1 h2 h3, rfl, ?_, ?_, fun _ => ?_⟩
        · funext k; simp [up, setV]
        · simp [up, setV]
        · simp [up]
  · rw [if_neg f0]
    have hcnd : cnd w b L d = [0] := by unfold cnd; rw [if_neg f0]
    have hoc : oc w b t N ρ c d v0 = fun _ => pO w b (pl w d) N ρ c v0 := by funext s; unfold oc; rw [if_neg f0]
    rw [hoc]
    rcases hstart with ⟨hf, rfl, rfl⟩ | ⟨hf, m, s, pre, hm, hbd, rfl, hpre, hsl⟩
    · have h := passes_fresh hb hkb ht hkt (by omega) htm hV hS hA' f0 (fun f1 => by obtain ⟨r, k1, k2, k3, -⟩ := hsj (by omega); exact ⟨r, k1, k2, k3⟩) hf
      rw [h, hcnd]
      unfold scan
      cases hp2 : pO w b (pl w d) N ρ c (w 104) with
      | none =>
        refine ⟨_, _, rfl, fun c k h1 h2 h3 => ?_, ?_⟩
        · unfold up; rw [if_neg h3]
        · unfold scan
          refine ⟨rfl, ?_⟩
          funext k; simp [up]
      | some q =>
        refine ⟨_, _, rfl, fun c k h1 h2 h3 => frV2 _ _ c k h1 h3, rfl, ?_, ?_, fun e => absurd e f0⟩
        · funext k; simp [up, setV]
        · simp [up]
    · have h := passes_back (w := w) (p := pl w d) (by omega) hm hbd hf
      rw [hcnd] at hpre
      have hl0 : l = [] := by
        cases pre with
        | nil => cases hpre; rfl
        | cons x pre => exact absurd (congrArg List.length hpre) (by simp)
      subst hl0
      rw [h]
      exact ⟨_, _, rfl, fun c k h1 _ _ => frV3 _ c k h1, rfl, setV_104⟩
