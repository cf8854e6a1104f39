/-! THE CLASS'S MILL: a rule's walk -/
theorem StO_base {Q Q' : QQ} {w0 w1 w : World} {b : Nat} {L : Nat → List Nat} (hF : FrW w0 w1) (hkb : kdA b = 1) (hQ : ∀ d vs s cur, Q d vs s cur → Q' d vs s cur) : ∀ (st : List FRM) (cur : Nat → Int), StO w0 b L Q w st cur → StO w1 b L Q' w st cur := by
  have h1 := kd1 hkb
  intro st
  induction st with
  | nil => intro cur h; exact h
  | cons f st ih =>
    intro cur h
    obtain ⟨s, rest, vs⟩ := f
    obtain ⟨⟨m, m1, m2, m3, m4, m5, m6, mq, pre, m7⟩, hst0⟩ := h
    refine ⟨⟨m, m1, ?_, m3, m4, Cov_congr hF hkb m5, ?_, hQ _ _ _ _ mq, pre, ?_⟩, ih vs hst0⟩
    · rw [pl_congr hF]; exact m2
    · rw [pl_congr hF, hF.cell (show b + 1 < 103 ∨ 106 < b + 1 by omega)]; exact m6
    · rw [cnd_congr hF hkb]; exact m7
theorem RB_congr {w w' : World} {b : Nat} (h0 : w' b = w b) (h1 : w' (b + 1) = w (b + 1)) (h2 : w' (b + 2) = w (b + 2)) (h3 : w' (b + 3) = w (b + 3)) : RB w' b = RB w b := by
  unfold RB
  rw [h0, h1, h2, h3]
theorem RB_FrW {w w' : World} {b : Nat} (h : FrW w w') (hkb : kdA b = 1) : RB w' b = RB w b := by
  have h1 := kd1 hkb
  exact RB_congr (h.cell (by omega)) (h.cell (by omega)) (h.cell (by omega)) (h.cell (by omega))
theorem RB_FrM {w w' : World} {b t : Nat} (h : FrM t w w') (hkb : kdA b = 1) (hkt : kdA t = 6) : RB w' b = RB w b := by
  have h1 := kd1 hkb
  have h6 := kd6 hkt
  exact RB_congr (funext (h b (by omega))) (funext (h _ (by omega))) (funext (h _ (by omega))) (funext (h _ (by omega)))
theorem SI_FrW {D : SH} {lv : Int → Nat} {FF : MM} {RR : RU → Prop} {sl t N : Nat} {w w' : World} {ρ c : Nat → Nat} {L : Nat → List Nat} (h : FrW w w') (hkt : kdA t = 6) (hV : VV (w' 104)) (hS : SI D lv FF RR sl t w N ρ c L) : SI D lv FF RR sl t w' N ρ c L := by
  have h6 := kd6 hkt
  obtain ⟨a1, a2, a3, a4, a5, a6, a7⟩ := hS
  refine ⟨WfS_congr (fun c a b k => by rw [h.cell (by omega)]) a1, (SA_congr (fun c a b k => by rw [h.cell (by omega)])).trans a2, AMod_congr (fun c a b => h.cell (by omega)) (fun c a b => h.cell (by omega)) a3, fun s hs => ?_, hV, a6, a7⟩
  unfold Vc
  rw [h.cell (show 3 < 103 ∨ 106 < 3 by omega)]
  exact a4 s hs
theorem Evo_FrW {D : SH} {lv : Int → Nat} {sl t N : Nat} {rd : Int} {w w' : World} {ρ c : Nat → Nat} (h : FrW w w') (hkt : kdA t = 6) : Evo D lv sl t rd w N ρ c w' N ρ c := by
  have h6 := kd6 hkt
  have e4 : w' (t + 4) = w (t + 4) := h.cell (show t + 4 < 103 ∨ 106 < t + 4 by omega)
  exact ⟨fun c0 h1 h2 => h.cell (by omega), Nat.le_refl _, fun _ _ => ⟨rfl, le_rfl⟩, fun _ _ _ => Iff.rfl, fun x => Or.inr ⟨by rw [e4], fun _ => rfl⟩, fun x h h' => absurd h' (by omega), fun x _ _ => by rw [e4]⟩
/-- where a walk stands: it begins, or it has a stack; what it is still to find; what is left -/
def WSt (w : World) (b t E N : Nat) (ρ c : Nat → Nat) (L : Nat → List Nat) (Q : QQ) (l : List ((Nat → Int) × List Nat)) (u : Nat) : Prop :=
  (w 103 4 = 0 ∧ w 103 5 = 1 ∧ VV (w 104) ∧ l = en (oc w b t N ρ c) (cnd w b L) E 0 (w 104) [] ∧ u = wg (isH w b) E 0) ∨
  ∃ st : List FRM, st.length = E ∧ w 103 4 = (E : Int) ∧ (E = 0 → w 103 5 = 0) ∧ StO w b L Q w st (w 104) ∧ l = rem (oc w b t N ρ c) (cnd w b L) E st ∧ u = dg (isH w b) E (48 - N) st
theorem WS_next {Q : QQ} {w : World} {b t E N u : Nat} {ρ c : Nat → Nat} {L : Nat → List Nat} {l : List ((Nat → Int) × List Nat)} (hC : WkC w b t E N ρ c L) (hQ : ∀ d vs s q, d < E → VV vs → Cov w b d vs → s ∈ cnd w b L d → oc w b t N ρ c d vs s = some q → Q d vs s q.1) (h3 : cnt (isP w b) E ≤ 3) (h : WSt w b t E N ρ c L Q l u) : NxR u (48 - N) w b L Q (oc w b t N ρ c) (cnd w b L) E (f_Wa_next w) l := by
  have hN := hC.2.2.2.2.2.2.2.2.1.2.1
  have hE5 := hC.2.2.2.2.2.1
  have hB := mvB_5 hE5 (F := isH w b) (by rw [cnt_isH hE5 hC.2.2.2.2.2.2.1]; exact h3)
  rcases h with ⟨h4, h5, hV, rfl, rfl⟩ | ⟨st, h1, h4, h5, hst, rfl, rfl⟩
  · exact next_first hC hQ FrW.refl (by omega) hB h4 h5 hV
  · exact next_again hC hQ FrW.refl (by omega) hB h1 h4 h5 hst
/-- the walk over the grown model -/
theorem WkC_FrM {w w' : World} {b t E N N' : Nat} {ρ c ρ' c' : Nat → Nat} {L L' : Nat → List Nat} (hC : WkC w b t E N ρ c L) (hF : FrM t w w') (hA : AMod w' t N' ρ' c' L') : WkC w' b t E N' ρ' c' L' := by
  obtain ⟨hb, hkb, ht, hkt, hE, hE5, hl, hS, -, hL, hsafe⟩ := hC
  have hW := hF.wal hkb hkt
  have h6 := kd6 hkt
  refine ⟨by rw [hW.1]; exact hb, hkb, by rw [hW.1]; exact ht, hkt, by rw [hW.1]; exact hE, hE5, by rw [hW.1]; exact hl, WfS_congr (fun c a b k => hF c (by omega) k) hS, hA, ?_, ?_⟩
  · rw [hW.2.2.2.2.1, hW.2.2.2.2.2.1, hW.2.2.2.2.2.2, show w' 3 = w 3 from funext (hF 3 (by omega))]
    exact hL
  · intro d hd
    have := hsafe d hd
    simp only [Wal_pl hW]
    rw [hW.2.2.2.2.1, hW.2.2.2.2.2.2]
    exact this
/-- what a literal takes is what it took, if the slot is as it was -/
theorem oc_take {w w' : World} {b t N N' d s : Nat} {ρ c ρ' c' : Nat → Nat} {vs : Nat → Int} (hkb : kdA b = 1) (hkt : kdA t = 6) (hF : FrM t w w') (h0 : w (b + 1) (pl w d) = 0 → w' (t + 3) s = w (t + 3) s ∧ w' (t + 4) s = w (t + 4) s) (h1 : w (b + 1) (pl w d) = 1 → ∀ k, AM N' ρ' c' (w (b + 2) (pl w d)) k ↔ AM N ρ c (w (b + 2) (pl w d)) k) : oc w' b t N' ρ' c' d vs s = oc w b t N ρ c d vs s := by
  have hW := hF.wal hkb hkt
  have h6 := kd6 hkt
  have e3 : w' 3 = w 3 := funext (hF 3 (by omega))
  unfold oc
  rw [Wal_pl hW, hW.2.2.2.2.1, hW.2.2.2.2.2.1, e3]
  by_cases f0 : w (b + 1) (pl w d) = 0
  · rw [if_pos f0, if_pos f0]
    have h := h0 f0
    unfold tO timely
    rw [hW.1, hW.1, hW.2.2.2.2.2.2, h.1, h.2]
  · rw [if_neg f0, if_neg f0]
    have etn : tn w' b (pl w d) vs = tn w b (pl w d) vs := by
      unfold tn
      rw [hW.2.2.2.2.2.2]
    unfold pO
    rw [hW.2.2.2.2.1, hW.2.2.2.2.2.1, hW.2.2.2.2.2.2, etn]
    by_cases f1 : w (b + 1) (pl w d) = 1
    · rw [if_pos f1, if_pos f1]
      have h := h1 f1 (tn w b (pl w d) vs)
      by_cases hA : AM N ρ c (w (b + 2) (pl w d)) (tn w b (pl w d) vs)
      · rw [if_pos hA, if_pos (h.mpr hA)]
      · rw [if_neg hA, if_neg (fun q => hA (h.mp q))]
    · rw [if_neg f1, if_neg f1]
