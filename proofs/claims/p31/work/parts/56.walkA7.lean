/-! THE CLASS'S WALK: what next answers -/
/-- how much is left, digit by digit: K for slots that are still to come -/
def wg (F : Nat → Bool) : Nat → Nat → Nat
  | 0, _ => 1
  | k + 1, d => (if F d = true then 48 else 1) * wg F k (d + 1)
def dg (F : Nat → Bool) (E K : Nat) : List FRM → Nat
  | [] => 0
  | (_, rest, _) :: st => (if F st.length = true then rest.length + K else 0) * wg F (E - st.length - 1) (st.length + 1) + dg F E K st
theorem wg_pos {F : Nat → Bool} : ∀ (k d : Nat), 1 ≤ wg F k d := by
  intro k
  induction k with
  | zero => intro d; exact Nat.le_refl _
  | succ k ih =>
    intro d
    have h := ih (d + 1)
    show 1 ≤ (if F d = true then 48 else 1) * wg F k (d + 1)
    split <;> omega
def isH (w : World) (b d : Nat) : Bool := decide (w (b + 1) (pl w d) = 0)
def NxR (u K : Nat) (w0 : World) (b : Nat) (L : Nat → List Nat) (Q : QQ) (O : Nat → (Nat → Int) → Nat → Option ((Nat → Int) × Nat)) (C : Nat → List Nat) (E : Nat) (r : Option (World × Int)) (l : List ((Nat → Int) × List Nat)) : Prop :=
  match l with
  | [] => ∃ w', r = some (w', 0) ∧ FrW w0 w' ∧ VV (w' 104)
  | x :: xs => ∃ (w' : World) (st' : List FRM), r = some (w', 1) ∧ FrW w0 w' ∧ st'.length = E ∧ w' 103 4 = (E : Int) ∧ (E = 0 → w' 103 5 = 0) ∧ w' 104 = x.1 ∧ pth st' = x.2 ∧ rem O C E st' = xs ∧ dg (isH w0 b) E K st' < u ∧ StO w0 b L Q w' st' x.1
theorem cnd_len {w : World} {b t E N d : Nat} {ρ c : Nat → Nat} {L : Nat → List Nat} (hC : WkC w b t E N ρ c L) (hd : d < E) : (cnd w b L d).length ≤ (if isH w b d = true then 48 else 1) := by
  obtain ⟨hb, hkb, ht, hkt, hE, hE5, hl, hS, hA, hL, hsafe⟩ := hC
  unfold cnd isH
  by_cases f0 : w (b + 1) (pl w d) = 0
  · rw [if_pos f0, if_pos (decide_eq_true f0)]
    obtain ⟨r, hr, hr10, -⟩ := (hL (pl w d) (pl_lt hd hl)).2.2 (by omega)
    rw [hr, Int.toNat_natCast]
    exact Nat.le_trans (hA.len hr10) hA.2.1
  · rw [if_neg f0, if_neg (by simpa using f0)]
    exact Nat.le_refl _
theorem cnd_lenN {w : World} {b t E N d : Nat} {ρ c : Nat → Nat} {L : Nat → List Nat} (hC : WkC w b t E N ρ c L) (hd : d < E) : (cnd w b L d).length ≤ (if isH w b d = true then N else 1) := by
  obtain ⟨hb, hkb, ht, hkt, hE, hE5, hl, hS, hA, hL, hsafe⟩ := hC
  unfold cnd isH
  by_cases f0 : w (b + 1) (pl w d) = 0
  · rw [if_pos f0, if_pos (decide_eq_true f0)]
    obtain ⟨r, hr, hr10, -⟩ := (hL (pl w d) (pl_lt hd hl)).2.2 (by omega)
    rw [hr, Int.toNat_natCast]
    exact hA.len hr10
  · rw [if_neg f0, if_neg (by simpa using f0)]
    exact Nat.le_refl _
theorem search {K : Nat} {Q : QQ} {w0 : World} {b t E N : Nat} {ρ c : Nat → Nat} {L : Nat → List Nat} (hC : WkC w0 b t E N ρ c L) (hQ : ∀ d vs s q, d < E → VV vs → Cov w0 b d vs → s ∈ cnd w0 b L d → oc w0 b t N ρ c d vs s = some q → Q d vs s q.1) (hK : N + K ≤ 48) : ∀ (n u : Nat),
    (∀ (w : World) (i : Nat) (st : List FRM), st.length < E → FrW w0 w → w 103 4 = (st.length : Int) → w 103 5 ≠ 0 → StO w0 b L Q w st (w 104) → mvB (isH w0 b) (E - st.length) st.length + mvS (isH w0 b) E st ≤ n → i + n < 10000000 → wg (isH w0 b) (E - st.length) st.length + dg (isH w0 b) E K st ≤ u →
      NxR u K w0 b L Q (oc w0 b t N ρ c) (cnd w0 b L) E (f_Wa_next_30 w (i : Int)) (en (oc w0 b t N ρ c) (cnd w0 b L) (E - st.length) st.length (w 104) (pth st) ++ rem (oc w0 b t N ρ c) (cnd w0 b L) E st)) ∧
    (∀ (w : World) (i : Nat) (st : List FRM), st.length ≤ E → FrW w0 w → w 103 4 = (st.length : Int) - 1 → w 103 5 = 0 → StO w0 b L Q w st (w 104) → mvS (isH w0 b) E st ≤ n → i + n < 10000000 → dg (isH w0 b) E K st ≤ u →
      NxR u K w0 b L Q (oc w0 b t N ρ c) (cnd w0 b L) E (f_Wa_next_30 w (i : Int)) (rem (oc w0 b t N ρ c) (cnd w0 b L) E st)) := by
  intro n
  induction n with
  | zero =>
    intro u
    refine ⟨fun w i st hlt hF h4 h5 hst hm hi hu => ?_, fun w i st hle hF h4 h5 hst hm hi hu => ?_⟩
    · have hB : 1 ≤ mvB (isH w0 b) (E - st.length) st.length := by
        obtain ⟨k, hk⟩ : ∃ k, E - st.length = k + 1 := ⟨E - st.length - 1, by omega⟩
        rw [hk]
        unfold mvB
        omega
      omega
    · cases st with
      | nil =>
        refine ⟨w, ?_, hF, hst⟩
        unfold f_Wa_next_30
        refine lp_out ?_
        show f_Wa_next_30B w (i : Int) = _
        unfold f_Wa_next_30B
        rw [if_neg (by omega), if_pos (by rw [h4]; simp)]
      | cons f st =>
        obtain ⟨s, rest, vs⟩ := f
        unfold mvS at hm
        omega
  | succ n ih =>
    intro u
    refine ⟨fun w i st hlt hF h4 h5 hst hm hi hu => ?_, fun w i st hle hF h4 h5 hst hm hi hu => ?_⟩
    · have hsg := step_gen (i := i) (v0 := w 104) (l := cnd w0 b L st.length) hC hQ hF rfl hlt h4 (by omega) hst ⟨[], rfl⟩ (Or.inl ⟨h5, rfl, rfl⟩)
      obtain ⟨k, hk⟩ : ∃ k, E - st.length = k + 1 := ⟨E - st.length - 1, by omega⟩
      have hk1 : E - (st.length + 1) = k := by omega
      rw [hk] at hm hu ⊢
      have hcl := cnd_len hC hlt
      have hcn := cnd_lenN hC hlt
      have hwg : wg (isH w0 b) (k + 1) st.length = (if isH w0 b st.length = true then 48 else 1) * wg (isH w0 b) k (st.length + 1) := rfl
      have hwp := wg_pos (F := isH w0 b) k (st.length + 1)
      have hwp0 := wg_pos (F := isH w0 b) (k + 1) st.length
      unfold mvB at hm
      have hen : en (oc w0 b t N ρ c) (cnd w0 b L) (k + 1) st.length (w 104) (pth st) = (cnd w0 b L st.length).flatMap (fun s => mo (oc w0 b t N ρ c st.length (w 104) s) (fun q => en (oc w0 b t N ρ c) (cnd w0 b L) k (st.length + 1) q.1 (s :: pth st))) := rfl
      rw [hen]
      cases hsc : scan (oc w0 b t N ρ c st.length (w 104)) (cnd w0 b L st.length) with
      | none =>
        rw [hsc] at hsg
        obtain ⟨w', e1, e2, e3, e4, e5, e6⟩ := hsg
        have e7 : f_Wa_next_30 w (i : Int) = f_Wa_next_30 w' ((i + 1 : Nat) : Int) := by
          unfold f_Wa_next_30
          exact lp_step (s := (w, (i : Int))) e1
        rw [e7, scan_flat_none hsc, List.nil_append]
        exact (ih u).2 w' (i + 1) st (by omega) e2 e3 e4 (by rw [e5]; exact e6) (by omega) (by omega) (by omega)
      | some z =>
        obtain ⟨s, q, rest⟩ := z
        rw [hsc] at hsg
        obtain ⟨w', e1, e2, e3, e4, e5, e6⟩ := hsg
        rw [scan_flat_some hsc]
        obtain ⟨-, pre, hpre, -⟩ := scan_some hsc
        have hrl : rest.length + 1 ≤ (if isH w0 b st.length = true then 48 else 1) := by
          rw [hpre, List.length_append, List.length_cons] at hcl
          omega
        have hrn : rest.length + 1 ≤ (if isH w0 b st.length = true then N else 1) := by
          rw [hpre, List.length_append, List.length_cons] at hcn
          omega
        have hdg : dg (isH w0 b) E K ((s, rest, w 104) :: st) + wg (isH w0 b) k (st.length + 1) ≤ wg (isH w0 b) (k + 1) st.length + dg (isH w0 b) E K st := by
          show (if isH w0 b st.length = true then rest.length + K else 0) * wg (isH w0 b) (E - st.length - 1) (st.length + 1) + dg (isH w0 b) E K st + _ ≤ _
          rw [show E - st.length - 1 = k by omega, hwg]
          by_cases fH : isH w0 b st.length = true
          · rw [if_pos fH] at hrn
            rw [if_pos fH, if_pos fH]
            have hmul : (rest.length + K + 1) * wg (isH w0 b) k (st.length + 1) ≤ 48 * wg (isH w0 b) k (st.length + 1) := Nat.mul_le_mul_right _ (by omega)
            rw [Nat.add_mul, Nat.one_mul] at hmul
            omega
          · rw [if_neg fH, if_neg fH]
            omega
        have hrem : rem (oc w0 b t N ρ c) (cnd w0 b L) E ((s, rest, w 104) :: st) = rest.flatMap (fun s => mo (oc w0 b t N ρ c st.length (w 104) s) (fun q => en (oc w0 b t N ρ c) (cnd w0 b L) k (st.length + 1) q.1 (s :: pth st))) ++ rem (oc w0 b t N ρ c) (cnd w0 b L) E st := by
          show rest.flatMap _ ++ _ = _
          rw [show E - st.length - 1 = k by omega]
        have hmS : mvS (isH w0 b) E ((s, rest, w 104) :: st) = rest.length * (mvB (isH w0 b) k (st.length + 1) + 1) + 1 + mvS (isH w0 b) E st := by
          show _ * (mvB (isH w0 b) (E - st.length - 1) _ + 1) + 1 + _ = _
          rw [show E - st.length - 1 = k by omega]
        have hmul : (rest.length + 1) * (mvB (isH w0 b) k (st.length + 1) + 1) ≤ (if isH w0 b st.length = true then 48 else 1) * (mvB (isH w0 b) k (st.length + 1) + 1) := Nat.mul_le_mul_right _ hrl
        rw [Nat.add_mul, Nat.one_mul] at hmul
        by_cases q9 : st.length + 1 = E
        · rw [if_pos q9] at e1
          have hk0 : k = 0 := by omega
          subst hk0
          refine ⟨w', (s, rest, w 104) :: st, ?_, e2, by rw [List.length_cons]; omega, by rw [e3]; omega, by omega, e5, rfl, ?_, by have := wg_pos (F := isH w0 b) 0 (st.length + 1); omega, e6⟩
          · unfold f_Wa_next_30
            exact lp_out (s := (w, (i : Int))) e1
          · rw [hrem]
            rfl
        · rw [if_neg q9] at e1
          have e7 : f_Wa_next_30 w (i : Int) = f_Wa_next_30 w' ((i + 1 : Nat) : Int) := by
            unfold f_Wa_next_30
            exact lp_step (s := (w, (i : Int))) e1
          have := (ih u).1 w' (i + 1) ((s, rest, w 104) :: st) (by rw [List.length_cons]; omega) e2 (by rw [e3, List.length_cons]; omega) (by rw [e4]; decide) (by rw [e5]; exact e6) (by rw [hmS, List.length_cons, hk1]; omega) (by omega) (by rw [List.length_cons, hk1]; omega)
          rw [e7]
          rw [List.length_cons, hk1, e5, hrem] at this
          rw [List.append_assoc]
          exact this
    · cases st with
      | nil =>
        refine ⟨w, ?_, hF, hst⟩
        unfold f_Wa_next_30
        refine lp_out ?_
        show f_Wa_next_30B w (i : Int) = _
        unfold f_Wa_next_30B
        rw [if_neg (by omega), if_pos (by rw [h4]; simp)]
      | cons f st =>
        obtain ⟨s0, rest0, vs⟩ := f
        rw [List.length_cons] at hle h4
        obtain ⟨⟨m, m1, m2, m3, m4, m5, m6, mq, pre0, m7⟩, hst0⟩ := hst
        have hvs : vs = ub (w 104) m := m3.ub.symm
        have hcn := cnd_lenN hC (show st.length < E by omega)
        rw [m7, List.length_append, List.length_cons] at hcn
        have hdg0 : dg (isH w0 b) E K ((s0, rest0, vs) :: st) = (if isH w0 b st.length = true then rest0.length + K else 0) * wg (isH w0 b) (E - st.length - 1) (st.length + 1) + dg (isH w0 b) E K st := rfl
        obtain ⟨k, hk⟩ : ∃ k, E - st.length = k + 1 := ⟨E - st.length - 1, by omega⟩
        have hk1 : E - (st.length + 1) = k := by omega
        have hk2 : E - st.length - 1 = k := by omega
        have hsg := step_gen (i := i) (v0 := vs) (l := rest0) hC hQ hF rfl (show st.length < E by omega) (by rw [h4]; omega) (by omega) hst0 ⟨pre0 ++ [s0], by rw [m7]; simp⟩ (Or.inr ⟨h5, m, s0, pre0, m1, m2, hvs, m7, m6⟩)
        unfold mvS at hm
        rw [hk2] at hm
        have hrem0 : rem (oc w0 b t N ρ c) (cnd w0 b L) E ((s0, rest0, vs) :: st) = rest0.flatMap (fun s => mo (oc w0 b t N ρ c st.length vs s) (fun q => en (oc w0 b t N ρ c) (cnd w0 b L) k (st.length + 1) q.1 (s :: pth st))) ++ rem (oc w0 b t N ρ c) (cnd w0 b L) E st := by
          show rest0.flatMap _ ++ _ = _
          rw [hk2]
        rw [hrem0]
        cases hsc : scan (oc w0 b t N ρ c st.length vs) rest0 with
        | none =>
          rw [hsc] at hsg
          obtain ⟨w', e1, e2, e3, e4, e5, e6⟩ := hsg
          have e7 : f_Wa_next_30 w (i : Int) = f_Wa_next_30 w' ((i + 1 : Nat) : Int) := by
            unfold f_Wa_next_30
            exact lp_step (s := (w, (i : Int))) e1
          rw [e7, scan_flat_none hsc, List.nil_append]
          exact (ih u).2 w' (i + 1) st (by omega) e2 e3 e4 (by rw [e5]; exact e6) (by omega) (by omega) (by omega)
        | some z =>
          obtain ⟨s, q, rest⟩ := z
          rw [hsc] at hsg
          obtain ⟨w', e1, e2, e3, e4, e5, e6⟩ := hsg
          rw [scan_flat_some hsc]
          obtain ⟨-, pre, hpre, -⟩ := scan_some hsc
          have hrl : rest.length + 1 ≤ rest0.length := by
            rw [hpre, List.length_append, List.length_cons]
            omega
          have hwp := wg_pos (F := isH w0 b) k (st.length + 1)
          have hdg : dg (isH w0 b) E K ((s, rest, vs) :: st) + wg (isH w0 b) k (st.length + 1) ≤ u := by
            have hd1 : dg (isH w0 b) E K ((s, rest, vs) :: st) = (if isH w0 b st.length = true then rest.length + K else 0) * wg (isH w0 b) (E - st.length - 1) (st.length + 1) + dg (isH w0 b) E K st := rfl
            rw [hdg0, hk2] at hu
            rw [hd1, hk2]
            by_cases fH : isH w0 b st.length = true
            · rw [if_pos fH] at hu ⊢
              have hmul : (rest.length + K + 1) * wg (isH w0 b) k (st.length + 1) ≤ (rest0.length + K) * wg (isH w0 b) k (st.length + 1) := Nat.mul_le_mul_right _ (by omega)
              rw [Nat.add_mul, Nat.one_mul] at hmul
              omega
            · rw [if_neg fH] at hcn
              omega
          have hrem : rem (oc w0 b t N ρ c) (cnd w0 b L) E ((s, rest, vs) :: st) = rest.flatMap (fun s => mo (oc w0 b t N ρ c st.length vs s) (fun q => en (oc w0 b t N ρ c) (cnd w0 b L) k (st.length + 1) q.1 (s :: pth st))) ++ rem (oc w0 b t N ρ c) (cnd w0 b L) E st := by
            show rest.flatMap _ ++ _ = _
            rw [hk2]
          have hmS : mvS (isH w0 b) E ((s, rest, vs) :: st) = rest.length * (mvB (isH w0 b) k (st.length + 1) + 1) + 1 + mvS (isH w0 b) E st := by
            show _ * (mvB (isH w0 b) (E - st.length - 1) _ + 1) + 1 + _ = _
            rw [hk2]
          have hmul : (rest.length + 1) * (mvB (isH w0 b) k (st.length + 1) + 1) ≤ rest0.length * (mvB (isH w0 b) k (st.length + 1) + 1) := Nat.mul_le_mul_right _ hrl
          rw [Nat.add_mul, Nat.one_mul] at hmul
          by_cases q9 : st.length + 1 = E
          · rw [if_pos q9] at e1
            have hk0 : k = 0 := by omega
            subst hk0
            refine ⟨w', (s, rest, vs) :: st, ?_, e2, by rw [List.length_cons]; omega, by rw [e3]; omega, by omega, e5, rfl, ?_, by omega, e6⟩
            · unfold f_Wa_next_30
              exact lp_out (s := (w, (i : Int))) e1
            · rw [hrem]
              rfl
          · rw [if_neg q9] at e1
            have e7 : f_Wa_next_30 w (i : Int) = f_Wa_next_30 w' ((i + 1 : Nat) : Int) := by
              unfold f_Wa_next_30
              exact lp_step (s := (w, (i : Int))) e1
            have := (ih u).1 w' (i + 1) ((s, rest, vs) :: st) (by rw [List.length_cons]; omega) e2 (by rw [e3, List.length_cons]; omega) (by rw [e4]; decide) (by rw [e5]; exact e6) (by rw [hmS, List.length_cons, hk1]; omega) (by omega) (by rw [List.length_cons, hk1]; omega)
            rw [e7]
            rw [List.length_cons, hk1, e5, hrem] at this
            rw [List.append_assoc]
            exact this
/-- all that is left to do on a stack is no more than all that there was -/
theorem mvS_le {Q : QQ} {w0 w : World} {b t E N : Nat} {ρ c : Nat → Nat} {L : Nat → List Nat} (hC : WkC w0 b t E N ρ c L) : ∀ (st : List FRM) (cur : Nat → Int), st.length ≤ E → StO w0 b L Q w st cur → mvS (isH w0 b) E st + mvB (isH w0 b) (E - st.length) st.length ≤ mvB (isH w0 b) E 0 := by
  intro st
  induction st with
  | nil => intro cur _ _; show 0 + mvB (isH w0 b) (E - 0) 0 ≤ _; rw [Nat.sub_zero]; omega
  | cons f st ih =>
    intro cur hle h
    obtain ⟨s, rest, vs⟩ := f
    rw [List.length_cons] at hle ⊢
    obtain ⟨⟨m, m1, m2, m3, m4, m5, m6, mq, pre, m7⟩, hst0⟩ := h
    have h1 := ih vs (by omega) hst0
    have hcl := cnd_len hC (show st.length < E by omega)
    rw [m7, List.length_append, List.length_cons] at hcl
    obtain ⟨k, hk⟩ : ∃ k, E - st.length = k + 1 := ⟨E - st.length - 1, by omega⟩
    rw [hk] at h1
    have hB : mvB (isH w0 b) (k + 1) st.length = (if isH w0 b st.length = true then 48 else 1) * (mvB (isH w0 b) k (st.length + 1) + 1) + 1 := rfl
    rw [hB] at h1
    show rest.length * (mvB (isH w0 b) (E - st.length - 1) (st.length + 1) + 1) + 1 + mvS (isH w0 b) E st + _ ≤ _
    rw [show E - st.length - 1 = k by omega, show E - (st.length + 1) = k by omega]
    have hmul : (rest.length + 1) * (mvB (isH w0 b) k (st.length + 1) + 1) ≤ (if isH w0 b st.length = true then 48 else 1) * (mvB (isH w0 b) k (st.length + 1) + 1) := Nat.mul_le_mul_right _ (by omega)
    rw [Nat.add_mul, Nat.one_mul] at hmul
    omega
theorem placeAt_s {w : World} {x : Int} : ∃ v, f_Wa_placeAt w x = some v := by
  unfold f_Wa_placeAt
  split
  · exact ⟨_, rfl⟩
  · split
    · split
      · exact ⟨_, rfl⟩
      · exact ⟨_, rfl⟩
    · exact ⟨_, rfl⟩
/-- the first assignment -/
theorem next_first {K : Nat} {Q : QQ} {w0 w : World} {b t E N : Nat} {ρ c : Nat → Nat} {L : Nat → List Nat} (hC : WkC w0 b t E N ρ c L) (hQ : ∀ d vs s q, d < E → VV vs → Cov w0 b d vs → s ∈ cnd w0 b L d → oc w0 b t N ρ c d vs s = some q → Q d vs s q.1) (hF : FrW w0 w) (hK : N + K ≤ 48) (hB : mvB (isH w0 b) E 0 < 9999999) (h4 : w 103 4 = 0) (h5 : w 103 5 = 1) (hV : VV (w 104)) :
    NxR (wg (isH w0 b) E 0) K w0 b L Q (oc w0 b t N ρ c) (cnd w0 b L) E (f_Wa_next w) (en (oc w0 b t N ρ c) (cnd w0 b L) E 0 (w 104) []) := by
  have h3 : w 103 3 = (E : Int) := (hF.f ⟨by omega, by omega⟩).trans hC.2.2.2.2.1
  by_cases hE : E = 0
  · subst hE
    refine ⟨up w 103 5 0, [], ?_, hF.trans (FrW.u (by omega)), rfl, by simp [up, h4], fun _ => by simp [up], by funext k; simp [up], rfl, rfl, wg_pos 0 0, ?_⟩
    · unfold f_Wa_next
      rw [h3, h4, h5, if_pos (show ((0 : Nat) : Int) = 0 from rfl), if_pos rfl, if_neg (by decide), bl_s]
    · exact hV
  · have h := (search hC hQ hK (mvB (isH w0 b) E 0) (wg (isH w0 b) E 0)).1 w 0 [] (by rw [List.length_nil]; omega) hF (by rw [h4]; rfl) (by rw [h5]; decide) hV (by show mvB (isH w0 b) (E - 0) 0 + 0 ≤ _; rw [Nat.sub_zero]; omega) (by omega) (Nat.le_refl _)
    have e : f_Wa_next w = f_Wa_next_30 w ((0 : Nat) : Int) := by
      unfold f_Wa_next f_Wa_next_28
      rw [h3, if_neg (by omega)]
      rfl
    rw [e]
    have e2 : rem (oc w0 b t N ρ c) (cnd w0 b L) E [] = [] := rfl
    rw [e2, List.append_nil] at h
    exact h
/-- .. and each one behind -/
theorem next_again {K : Nat} {Q : QQ} {w0 w : World} {b t E N : Nat} {ρ c : Nat → Nat} {L : Nat → List Nat} {st : List FRM} (hC : WkC w0 b t E N ρ c L) (hQ : ∀ d vs s q, d < E → VV vs → Cov w0 b d vs → s ∈ cnd w0 b L d → oc w0 b t N ρ c d vs s = some q → Q d vs s q.1) (hF : FrW w0 w) (hK : N + K ≤ 48) (hB : mvB (isH w0 b) E 0 < 9999999) (hlen : st.length = E) (h4 : w 103 4 = (E : Int)) (h5 : E = 0 → w 103 5 = 0) (hst : StO w0 b L Q w st (w 104)) :
    NxR (dg (isH w0 b) E K st) K w0 b L Q (oc w0 b t N ρ c) (cnd w0 b L) E (f_Wa_next w) (rem (oc w0 b t N ρ c) (cnd w0 b L) E st) := by
  have h3 : w 103 3 = (E : Int) := (hF.f ⟨by omega, by omega⟩).trans hC.2.2.2.2.1
  have hE5 := hC.2.2.2.2.2.1
  have e : f_Wa_next w = f_Wa_next_30 w ((0 : Nat) : Int) := by
    unfold f_Wa_next f_Wa_next_28
    by_cases hE : E = 0
    · rw [h3, if_pos (by omega), h4, if_pos (by omega), if_pos (h5 hE)]
      rfl
    · rw [h3, if_neg (by omega)]
      rfl
  obtain ⟨v, hv⟩ := placeAt_s (w := w) (x := (E : Int))
  have step : f_Wa_next_30B w ((0 : Nat) : Int) = some (Sum.inl (up (up w 103 4 ((E : Int) - 1)) 103 5 0, ((0 + 1 : Nat) : Int))) := by
    unfold f_Wa_next_30B f_Wa_next_97 f_Wa_next_98 f_Wa_next_113 f_Wa_next_139
    rw [if_neg (by omega), h4, if_neg (by omega), hv, bnd_s, h3, if_pos (Int.le_refl _), if_pos rfl, bl_s, wr_of (x := (E : Int) + -1) ⟨by omega, by omega⟩, gd_t (Or.inl rfl), bl_s, if_pos rfl, bl_s, wr_of (x := ((0 : Nat) : Int) + 1) ⟨by omega, by omega⟩]
    rfl
  have e2 : f_Wa_next_30 w ((0 : Nat) : Int) = f_Wa_next_30 (up (up w 103 4 ((E : Int) - 1)) 103 5 0) ((0 + 1 : Nat) : Int) := by
    unfold f_Wa_next_30
    exact lp_step (s := (w, ((0 : Nat) : Int))) step
  rw [e, e2]
  have hmv := mvS_le hC st (w 104) (by omega) hst
  have e104 : up (up w 103 4 ((E : Int) - 1)) 103 5 0 104 = w 104 := by funext k; simp [up]
  have h := (search hC hQ hK (mvB (isH w0 b) E 0) (dg (isH w0 b) E K st)).2 (up (up w 103 4 ((E : Int) - 1)) 103 5 0) (0 + 1) st (by omega) (hF.trans ((FrW.u (by omega)).trans (FrW.u (by omega)))) (by simp [up, hlen]) (by simp [up]) (by rw [e104]; exact StO_congr (fun j _ => ⟨by simp [up], by simp [up]⟩) hst) (by omega) (by omega) (Nat.le_refl _)
  exact h
