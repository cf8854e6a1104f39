/-! THE CLASS'S WALK: the stack, the search, next -/
abbrev FRM : Type := Nat × List Nat × (Nat → Int)
/-- Q: what is known of a literal since it was taken: its depth, the values ahead, the slot, the values behind -/
abbrev QQ : Type := Nat → (Nat → Int) → Nat → (Nat → Int) → Prop
def StO (w0 : World) (b : Nat) (L : Nat → List Nat) (Q : QQ) (w : World) : List FRM → (Nat → Int) → Prop
  | [], cur => VV cur
  | (s, rest, vs) :: st, cur => (∃ m : Nat, m < 256 ∧ w 106 (pl w0 st.length) = (m : Int) ∧ Bnd vs cur m ∧ VV cur ∧ Cov w0 b (st.length + 1) cur ∧ (w0 (b + 1) (pl w0 st.length) = 0 → w 105 (pl w0 st.length) = (s : Int)) ∧ Q st.length vs s cur ∧ ∃ pre, cnd w0 b L st.length = pre ++ s :: rest) ∧ StO w0 b L Q w st vs
theorem StO_VV {Q : QQ} {w0 w : World} {b : Nat} {L : Nat → List Nat} {st : List FRM} {cur : Nat → Int} (h : StO w0 b L Q w st cur) : VV cur := by
  cases st with
  | nil => exact h
  | cons f st => obtain ⟨s, rest, vs⟩ := f; exact h.1.choose_spec.2.2.2.1
theorem StO_cov {Q : QQ} {w0 w : World} {b : Nat} {L : Nat → List Nat} {st : List FRM} {cur : Nat → Int} (h : StO w0 b L Q w st cur) : Cov w0 b st.length cur := by
  cases st with
  | nil => intro j c' hj; exact absurd hj (by simp)
  | cons f st => obtain ⟨s, rest, vs⟩ := f; exact h.1.choose_spec.2.2.2.2.1
theorem StO_congr {Q : QQ} {w0 w w' : World} {b : Nat} {L : Nat → List Nat} : ∀ {st : List FRM} {cur : Nat → Int}, (∀ j, j < st.length → w' 105 (pl w0 j) = w 105 (pl w0 j) ∧ w' 106 (pl w0 j) = w 106 (pl w0 j)) → StO w0 b L Q w st cur → StO w0 b L Q w' st cur := by
  intro st
  induction st with
  | nil => intro cur _ h; exact h
  | cons f st ih =>
    intro cur hw h
    obtain ⟨s, rest, vs⟩ := f
    obtain ⟨⟨m, h1, h2, h3, h4, h5, h6, hq, h7⟩, h8⟩ := h
    have := hw st.length (by simp)
    exact ⟨⟨m, h1, by rw [this.2]; exact h2, h3, h4, h5, fun e => by rw [this.1]; exact h6 e, hq, h7⟩, ih (fun j hj => hw j (by simp; omega)) h8⟩
def pth (st : List FRM) : List Nat := st.map (fun f => f.1)
def mo {β : Type} (x : Option ((Nat → Int) × Nat)) (g : (Nat → Int) × Nat → List β) : List β := match x with
  | some q => g q
  | none => []
/-- all that a walk finds from a depth on -/
noncomputable def en (O : Nat → (Nat → Int) → Nat → Option ((Nat → Int) × Nat)) (C : Nat → List Nat) : Nat → Nat → (Nat → Int) → List Nat → List ((Nat → Int) × List Nat)
  | 0, _, vs, pa => [(vs, pa)]
  | k + 1, d, vs, pa => (C d).flatMap (fun s => mo (O d vs s) (fun q => en O C k (d + 1) q.1 (s :: pa)))
/-- .. and what it finds behind its stack -/
noncomputable def rem (O : Nat → (Nat → Int) → Nat → Option ((Nat → Int) × Nat)) (C : Nat → List Nat) (E : Nat) : List FRM → List ((Nat → Int) × List Nat)
  | [] => []
  | (_, rest, vs) :: st => rest.flatMap (fun s => mo (O st.length vs s) (fun q => en O C (E - st.length - 1) (st.length + 1) q.1 (s :: pth st))) ++ rem O C E st
theorem scan_flat_none {β : Type} {O : Nat → Option ((Nat → Int) × Nat)} {g : Nat → (Nat → Int) × Nat → List β} {l : List Nat} (h : scan O l = none) : l.flatMap (fun s => mo (O s) (g s)) = [] := by
  rw [List.flatMap_eq_nil_iff]
  intro x hx
  rw [scan_none h x hx]
  rfl
theorem scan_flat_some {β : Type} {O : Nat → Option ((Nat → Int) × Nat)} {g : Nat → (Nat → Int) × Nat → List β} {l : List Nat} {s : Nat} {q : (Nat → Int) × Nat} {rest : List Nat} (h : scan O l = some (s, q, rest)) : l.flatMap (fun s => mo (O s) (g s)) = g s q ++ rest.flatMap (fun s => mo (O s) (g s)) := by
  obtain ⟨hO, pre, rfl, hpre⟩ := scan_some h
  rw [List.flatMap_append, List.flatMap_cons, hO]
  have : pre.flatMap (fun s => mo (O s) (g s)) = [] := by
    rw [List.flatMap_eq_nil_iff]
    intro x hx
    rw [hpre x hx]
    rfl
  rw [this]
  rfl
/-- how many moves a search takes at the most: h atoms that are to hold, k other literals -/
def mvB (F : Nat → Bool) : Nat → Nat → Nat
  | 0, _ => 1
  | k + 1, d => (if F d = true then 48 else 1) * (mvB F k (d + 1) + 1) + 1
def mvS (F : Nat → Bool) (E : Nat) : List FRM → Nat
  | [] => 0
  | (_, rest, _) :: st => rest.length * (mvB F (E - st.length - 1) (st.length + 1) + 1) + 1 + mvS F E st
theorem step_gen {Q : QQ} {w0 w : World} {b t E N d i : Nat} {ρ c : Nat → Nat} {L : Nat → List Nat} {v0 : Nat → Int} {l : List Nat} {st : List FRM} (hC : WkC w0 b t E N ρ c L) (hQ : ∀ d vs s q, d < E → VV vs → Cov w0 b d vs → s ∈ cnd w0 b L d → oc w0 b t N ρ c d vs s = some q → Q d vs s q.1) (hF : FrW w0 w) (hlen : st.length = d) (hd : d < E) (h4 : w 103 4 = (d : Int)) (hi : i < 10000000) (hst : StO w0 b L Q w st v0) (hl : ∃ pre, cnd w0 b L d = pre ++ l)
    (hstart : (w 103 5 ≠ 0 ∧ v0 = w 104 ∧ l = cnd w0 b L d) ∨ (w 103 5 = 0 ∧ ∃ (m s : Nat) (pre : List Nat), m < 256 ∧ w 106 (pl w0 d) = (m : Int) ∧ v0 = ub (w 104) m ∧ cnd w0 b L d = pre ++ s :: l ∧ (w0 (b + 1) (pl w0 d) = 0 → w 105 (pl w0 d) = (s : Int)))) :
    match scan (oc w0 b t N ρ c d v0) l with
    | none => ∃ w', f_Wa_next_30B w (i : Int) = some (Sum.inl (w', ((i + 1 : Nat) : Int))) ∧ FrW w0 w' ∧ w' 103 4 = (d : Int) - 1 ∧ w' 103 5 = 0 ∧ w' 104 = v0 ∧ StO w0 b L Q w' st v0
    | some (s, q, rest) => ∃ w', f_Wa_next_30B w (i : Int) = (if d + 1 = E then some (Sum.inr (w', 1)) else some (Sum.inl (w', ((i + 1 : Nat) : Int)))) ∧ FrW w0 w' ∧ w' 103 4 = (d : Int) + 1 ∧ w' 103 5 = 1 ∧ w' 104 = q.1 ∧ StO w0 b L Q w' ((s, rest, v0) :: st) q.1 := by
  have hCw := WkC_congr hF hC
  have hkb := hC.2.1
  have hkt := hC.2.2.2.1
  have hb1 := kd1 hkb
  have hE5 : E ≤ 5 := hC.2.2.2.2.2.1
  have hle := hC.2.2.2.2.2.2.1
  have epl : ∀ j, pl w j = pl w0 j := fun j => pl_congr hF
  have eb1 : w (b + 1) = w0 (b + 1) := hF.cell (by omega)
  have hV := StO_VV hst
  obtain ⟨w1, a, hr, hfr, hm⟩ := lit_res (l := l) hCw hd hV (by rw [cnd_congr hF hkb, epl, eb1]; exact hstart)
  have eoc : oc w b t N ρ c d v0 = oc w0 b t N ρ c d v0 := funext (fun s => oc_congr hF hkb hkt)
  rw [eoc] at hm
  have k4 : w1 103 4 = (d : Int) := by rw [hfr 103 4 (by omega) (by omega) (by omega)]; exact h4
  have k3 : w1 103 3 = (E : Int) := by rw [hfr 103 3 (by omega) (by omega) (by omega)]; exact hCw.2.2.2.2.1
  have hF1 : FrW w0 w1 := fun c k p1 p2 p3 p4 => (hfr c k p1 (fun e => p2 e.1) (fun e => p3 e.1)).trans (hF c k p1 p2 p3 p4)
  have hinj : ∀ j, j < d → pl w0 j ≠ pl w0 d := fun j hj e => by
    have := pl_inj (w := w0) (by omega) e
    omega
  have hstw1 : StO w0 b L Q w1 st v0 := StO_congr (fun j hj => by
    have hne := hinj j (by omega)
    exact ⟨hfr 105 _ (by omega) (fun e => hne (e.2.trans (epl d))) (by omega), hfr 106 _ (by omega) (by omega) (fun e => hne (e.2.trans (epl d)))⟩) hst
  have pa := placeAt_n (w := w) (d := d) (by omega) (by have := hCw.2.2.2.2.2.2.1; omega)
  have pl5 := pl_lt (w := w) hd hCw.2.2.2.2.2.2.1
  cases hsc : scan (oc w0 b t N ρ c d v0) l with
  | none =>
    rw [hsc] at hm
    obtain ⟨rfl, h104⟩ := hm
    have hmv := next_move hCw.1 hkb h4 hCw.2.2.2.2.1 hE5 hd hi (by omega) pa hr k4 k3 (Or.inl rfl)
    rw [if_pos rfl] at hmv
    refine ⟨_, hmv, hF1.trans ((FrW.u (by omega)).trans (FrW.u (by omega))), by simp [up], by simp [up], ?_, StO_congr (fun j _ => ⟨by simp [up], by simp [up]⟩) hstw1⟩
    funext k
    simp [up, h104]
  | some z =>
    obtain ⟨s, q, rest⟩ := z
    rw [hsc] at hm
    obtain ⟨rfl, h104, h106, h105⟩ := hm
    have hmv := next_move hCw.1 hkb h4 hCw.2.2.2.2.1 hE5 hd hi (by omega) pa hr k4 k3 (Or.inr rfl)
    rw [if_neg (by decide)] at hmv
    obtain ⟨hO, pre', hpre', -⟩ := scan_some hsc
    have hok := oc_ok hC hd hV (hlen ▸ StO_cov hst) hO
    refine ⟨_, hmv, hF1.trans ((FrW.u (by omega)).trans (FrW.u (by omega))), by simp [up], by simp [up], ?_, ⟨q.2, hok.2.1.1, ?_, hok.2.1, hok.1, by rw [hlen]; exact hok.2.2, ?_, by rw [hlen]; exact hQ d v0 s q hd hV (hlen ▸ StO_cov hst) (by obtain ⟨pre, hpre⟩ := hl; rw [hpre, hpre']; exact List.mem_append_right _ (List.mem_append_right _ List.mem_cons_self)) hO, ?_⟩, StO_congr (fun j _ => ⟨by simp [up], by simp [up]⟩) hstw1⟩
    · funext k
      simp [up, h104]
    · rw [hlen, ← epl, ← h106]
      simp [up]
    · intro e
      rw [hlen] at e ⊢
      rw [← epl, ← h105 (by rw [epl, eb1]; exact e)]
      simp [up]
    · obtain ⟨pre, hpre⟩ := hl
      exact ⟨pre ++ pre', by rw [hlen, hpre, hpre', List.append_assoc]⟩
