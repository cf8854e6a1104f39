/-! THE CLASS'S WALK without a lead: what it finds, one by one -/
def FrV (w w' : World) : Prop := ∀ c k, c < 150 → c ≠ 104 → c ≠ 105 → c ≠ 106 → ¬ (c = 103 ∧ (k = 4 ∨ k = 5)) → w' c k = w c k
theorem FrV.cell {w w' : World} (h : FrV w w') {c : Nat} (hc : c < 103 ∨ (106 < c ∧ c < 150)) : w' c = w c := funext (fun k => h c k (by omega) (by omega) (by omega) (by omega) (by omega))
theorem FrV.f {w w' : World} (h : FrV w w') {k : Nat} (hk : k ≠ 4 ∧ k ≠ 5) : w' 103 k = w 103 k := h 103 k (by omega) (by omega) (by omega) (by omega) (by omega)
theorem pl_v {w w' : World} (h : FrV w w') {d : Nat} : pl w' d = pl w d := by
  unfold pl
  rw [h.f ⟨by omega, by omega⟩]
theorem kd6_150 : ∀ b, b < 158 → kdA b = 6 → b + 4 < 150 := by decide +kernel
theorem kd6_hi {t : Nat} (h : kdA t = 6) : t + 4 < 150 := kd6_150 t (kd_lt h (by omega)) h
theorem oc_v {w w' : World} {b t N d : Nat} {ρ c : Nat → Nat} {vs : Nat → Int} {s : Nat} (h : FrV w w') (hkb : kdA b = 1) (hkt : kdA t = 6) : oc w' b t N ρ c d vs s = oc w b t N ρ c d vs s := by
  have h1 := kd1 hkb
  have h6 := kd6 hkt
  have h7 := kd6_hi hkt
  unfold oc tO pO tn
  rw [pl_v h, h.cell (show b + 1 < 103 ∨ _ by omega), h.cell (show b + 2 < 103 ∨ _ by omega), h.cell (show b + 3 < 103 ∨ _ by omega), h.cell (show 3 < 103 ∨ _ by omega), h.cell (show t + 4 < 103 ∨ (106 < t + 4 ∧ t + 4 < 150) by omega), h.cell (show t + 3 < 103 ∨ (106 < t + 3 ∧ t + 3 < 150) by omega), h.f ⟨by omega, by omega⟩, h.f ⟨by omega, by omega⟩]
theorem cnd_v {w w' : World} {b d : Nat} {L : Nat → List Nat} (h : FrV w w') (hkb : kdA b = 1) : cnd w' b L d = cnd w b L d := by
  have h1 := kd1 hkb
  unfold cnd
  rw [pl_v h, h.cell (show b + 1 < 103 ∨ _ by omega), h.cell (show b + 2 < 103 ∨ _ by omega)]
theorem isH_v {w w' : World} {b : Nat} (h : FrV w w') (hkb : kdA b = 1) : isH w' b = isH w b := by
  have h1 := kd1 hkb
  funext d
  unfold isH
  rw [pl_v h, h.cell (show b + 1 < 103 ∨ _ by omega)]
theorem WkC_v {w w' : World} {b t E N : Nat} {ρ c : Nat → Nat} {L : Nat → List Nat} (h : FrV w w') (hC : WkC w b t E N ρ c L) : WkC w' b t E N ρ c L := by
  obtain ⟨hb, hkb, ht, hkt, hE, hE5, hl, hS, hA, hL, hsafe⟩ := hC
  have h1 := kd1 hkb
  have h6 := kd6 hkt
  have h7 := kd6_hi hkt
  have e1 := h.cell (show b + 1 < 103 ∨ (106 < b + 1 ∧ b + 1 < 150) by omega)
  have e2 := h.cell (show b + 2 < 103 ∨ (106 < b + 2 ∧ b + 2 < 150) by omega)
  have e3 := h.cell (show b + 3 < 103 ∨ (106 < b + 3 ∧ b + 3 < 150) by omega)
  refine ⟨by rw [h.f ⟨by omega, by omega⟩]; exact hb, hkb, by rw [h.f ⟨by omega, by omega⟩]; exact ht, hkt, by rw [h.f ⟨by omega, by omega⟩]; exact hE, hE5, by rw [h.f ⟨by omega, by omega⟩]; exact hl, WfS_congr (fun c a b k => by rw [h.cell (by omega)]) hS, AMod_congr (fun c a b => h.cell (by omega)) (fun c a b => h.cell (by omega)) hA, ?_, ?_⟩
  · rw [e1, e2, e3, h.cell (show 3 < 103 ∨ (106 < 3 ∧ 3 < 150) by omega)]
    exact hL
  · intro d hd
    have := hsafe d hd
    simp only [pl_v h]
    rw [e1, e3]
    exact this
theorem Cov_v {w w' : World} {b d : Nat} {vs : Nat → Int} (h : FrV w w') (hkb : kdA b = 1) (hc : Cov w b d vs) : Cov w' b d vs := by
  have h1 := kd1 hkb
  unfold Cov
  simp only [pl_v h]
  rw [h.cell (show b + 1 < 103 ∨ (106 < b + 1 ∧ b + 1 < 150) by omega), h.cell (show b + 3 < 103 ∨ (106 < b + 3 ∧ b + 3 < 150) by omega)]
  exact hc
theorem StO_v {Q : QQ} {w0 w0' w w' : World} {b : Nat} {L : Nat → List Nat} (h : FrV w0 w0') (hkb : kdA b = 1) (h5 : w' 105 = w 105) (h6 : w' 106 = w 106) : ∀ {st : List FRM} {cur : Nat → Int}, StO w0 b L Q w st cur → StO w0' b L Q w' st cur := by
  have hb1 := kd1 hkb
  have e1 : w0' (b + 1) = w0 (b + 1) := h.cell (by omega)
  intro st
  induction st with
  | nil => intro cur hs; exact hs
  | cons f st ih =>
    intro cur hs
    obtain ⟨s, rest, vs⟩ := f
    obtain ⟨⟨m, m1, m2, m3, m4, m5, m6, mq, pre, m7⟩, hst0⟩ := hs
    refine ⟨⟨m, m1, by rw [pl_v h, h6]; exact m2, m3, m4, Cov_v h hkb m5, fun e => ?_, mq, pre, by rw [cnd_v h hkb]; exact m7⟩, ih hst0⟩
    rw [e1, pl_v h] at e
    rw [pl_v h, h5]
    exact m6 e
theorem StO_pth {Q : QQ} {w0 w : World} {b : Nat} {L : Nat → List Nat} (hpl : ∀ d, pl w0 d = d) : ∀ {st : List FRM} {cur : Nat → Int}, StO w0 b L Q w st cur → AllP (fun d s => w0 (b + 1) d = 0 → w 105 d = (s : Int)) (pth st) := by
  intro st
  induction st with
  | nil => intro cur _; exact trivial
  | cons f st ih =>
    intro cur hs
    obtain ⟨s, rest, vs⟩ := f
    obtain ⟨⟨m, m1, m2, m3, m4, m5, m6, mq, pre, m7⟩, hst0⟩ := hs
    have hlen : (pth st).length = st.length := List.length_map _
    rw [hpl] at m6
    have h1 : w0 (b + 1) (pth st).length = 0 → w 105 (pth st).length = (s : Int) := by rw [hlen]; exact m6
    exact ⟨h1, ih hst0⟩
/-- what next gives from here on -/
def ItA (b : Nat) : List ((Nat → Int) × List Nat) → World → Prop
  | [], w => ∃ w', f_Wa_next w = some (w', 0) ∧ FrW w w' ∧ VV (w' 104)
  | x :: xs, w => ∃ w', f_Wa_next w = some (w', 1) ∧ FrW w w' ∧ VV (w' 104) ∧ w' 104 = x.1 ∧ AllP (fun d s => w (b + 1) d = 0 → w' 105 d = (s : Int)) x.2 ∧ ∀ w'' : World, (∀ c, c < 150 → w'' c = w' c) → ItA b xs w''
def QT : QQ := fun _ _ _ _ => True
theorem ItA_st {b t E N : Nat} {ρ c : Nat → Nat} {L : Nat → List Nat} : ∀ (xs : List ((Nat → Int) × List Nat)) (w : World) (st : List FRM), WkC w b t E N ρ c L → w 103 6 = -1 → mvB (isH w b) E 0 < 9999999 → st.length = E → w 103 4 = (E : Int) → (E = 0 → w 103 5 = 0) → StO w b L QT w st (w 104) → rem (oc w b t N ρ c) (cnd w b L) E st = xs → ItA b xs w := by
  intro xs
  induction xs with
  | nil =>
    intro w st hC h6 hB hlen h4 h5 hst hr
    have h := next_again (K := 0) hC (fun _ _ _ _ _ _ _ _ _ => trivial) FrW.refl (by have := hC.2.2.2.2.2.2.2.2.1.2.1; omega) hB hlen h4 h5 hst
    rw [hr] at h
    exact h
  | cons x xs ih =>
    intro w st hC h6 hB hlen h4 h5 hst hr
    have h := next_again (K := 0) hC (fun _ _ _ _ _ _ _ _ _ => trivial) FrW.refl (by have := hC.2.2.2.2.2.2.2.2.1.2.1; omega) hB hlen h4 h5 hst
    rw [hr] at h
    obtain ⟨w', st', e, hF, hlen', h4', h5', h104, hp, hrem, -, hSt⟩ := h
    have hpl : ∀ d, pl w d = d := fun d => by have := pl_cases w d; omega
    refine ⟨w', e, hF, by rw [h104]; exact StO_VV hSt, h104, by rw [← hp]; exact StO_pth hpl hSt, fun w'' hw => ?_⟩
    have hkb := hC.2.1
    have hkt := hC.2.2.2.1
    have hV : FrV w w'' := fun c0 k hc a1 a2 a3 a4 => by rw [hw c0 hc]; exact hF c0 k a1 a2 a3 a4
    have eO : (oc w'' b t N ρ c) = oc w b t N ρ c := funext fun d => funext fun vs => funext fun s => oc_v hV hkb hkt
    have eC : cnd w'' b L = cnd w b L := funext fun d => cnd_v hV hkb
    refine ih w'' st' (WkC_v hV hC) (by rw [hV.f ⟨by omega, by omega⟩]; exact h6) (by rw [isH_v hV hkb]; exact hB) hlen' (by rw [hw 103 (by omega)]; exact h4') (fun z => by rw [hw 103 (by omega)]; exact h5' z) ?_ (by rw [eO, eC]; exact hrem)
    rw [hw 104 (by omega), h104]
    exact StO_v hV hkb (hw 105 (by omega)) (hw 106 (by omega)) hSt
theorem ItA_begin {w : World} {b t E N : Nat} {ρ c : Nat → Nat} {L : Nat → List Nat} (hC : WkC w b t E N ρ c L) (h6 : w 103 6 = -1) (h4 : w 103 4 = 0) (h5 : w 103 5 = 1) (hV : VV (w 104)) (hB : mvB (isH w b) E 0 < 9999999) : ItA b (en (oc w b t N ρ c) (cnd w b L) E 0 (w 104) []) w := by
  have h := next_first (K := 0) (Q := QT) hC (fun _ _ _ _ _ _ _ _ _ => trivial) FrW.refl (by have := hC.2.2.2.2.2.2.2.2.1.2.1; omega) hB h4 h5 hV
  cases hl : en (oc w b t N ρ c) (cnd w b L) E 0 (w 104) [] with
  | nil =>
    rw [hl] at h
    exact h
  | cons x xs =>
    rw [hl] at h
    obtain ⟨w', st', e, hF, hlen', h4', h5', h104, hp, hrem, -, hSt⟩ := h
    have hpl : ∀ d, pl w d = d := fun d => by have := pl_cases w d; omega
    refine ⟨w', e, hF, by rw [h104]; exact StO_VV hSt, h104, by rw [← hp]; exact StO_pth hpl hSt, fun w'' hw => ?_⟩
    have hkb := hC.2.1
    have hkt := hC.2.2.2.1
    have hVf : FrV w w'' := fun c0 k hc a1 a2 a3 a4 => by rw [hw c0 hc]; exact hF c0 k a1 a2 a3 a4
    have eO : (oc w'' b t N ρ c) = oc w b t N ρ c := funext fun d => funext fun vs => funext fun s => oc_v hVf hkb hkt
    have eC : cnd w'' b L = cnd w b L := funext fun d => cnd_v hVf hkb
    refine ItA_st xs w'' st' (WkC_v hVf hC) (by rw [hVf.f ⟨by omega, by omega⟩]; exact h6) (by rw [isH_v hVf hkb]; exact hB) hlen' (by rw [hw 103 (by omega)]; exact h4') (fun z => by rw [hw 103 (by omega)]; exact h5' z) ?_ (by rw [eO, eC]; exact hrem)
    rw [hw 104 (by omega), h104]
    exact StO_v hVf hkb (hw 105 (by omega)) (hw 106 (by omega)) hSt
/-- .. told by the rule -/
def cq (R : RU) (L : Nat → List Nat) (d : Nat) : List Nat := if R.fm d = 0 then L (R.sj d).toNat else [0]
theorem flat_congr {α β : Type} {f g : α → List β} : ∀ (l : List α), (∀ a, a ∈ l → f a = g a) → l.flatMap f = l.flatMap g := by
  intro l
  induction l with
  | nil => intro _; rfl
  | cons a l ih =>
    intro h
    rw [List.flatMap_cons, List.flatMap_cons, h a List.mem_cons_self, ih (fun b hb => h b (List.mem_cons_of_mem _ hb))]
theorem en_same {O O' : Nat → (Nat → Int) → Nat → Option ((Nat → Int) × Nat)} {C C' : Nat → List Nat} : ∀ (k d : Nat) (vs : Nat → Int) (pa : List Nat), (∀ j vs s, d ≤ j → j < d + k → s ∈ C j → O' j vs s = O j vs s) → (∀ j, d ≤ j → j < d + k → C' j = C j) → en O' C' k d vs pa = en O C k d vs pa := by
  intro k
  induction k with
  | zero => intro d vs pa _ _; rfl
  | succ k ih =>
    intro d vs pa hO hC
    show (C' d).flatMap (fun s => mo (O' d vs s) (fun q => en O' C' k (d + 1) q.1 (s :: pa))) = (C d).flatMap (fun s => mo (O d vs s) (fun q => en O C k (d + 1) q.1 (s :: pa)))
    rw [hC d (Nat.le_refl _) (by omega)]
    refine flat_congr _ (fun s hs => ?_)
    rw [hO d vs s (Nat.le_refl _) (by omega) hs]
    cases O d vs s with
    | none => rfl
    | some q => exact ih (d + 1) q.1 (s :: pa) (fun j vs s h1 h2 => hO j vs s (by omega) (by omega)) (fun j h1 h2 => hC j (by omega) (by omega))
theorem oc_oq {w : World} {b t E N d : Nat} {ρ c : Nat → Nat} {L : Nat → List Nat} {vs : Nat → Int} {s : Nat} (hC : WkC w b t E N ρ c L) (h6 : w 103 6 = -1) (hd : d < E) (hs : s ∈ cq (RB w b) L d) : oc w b t N ρ c d vs s = oq (SA w) (AM N ρ c) (RB w b) ρ c d vs s := by
  have hpl : pl w d = d := by have := pl_cases w d; omega
  obtain ⟨hb, hkb, ht, hkt, hE, hE5, hl, hS, hA, hL, hsafe⟩ := hC
  obtain ⟨htm, hfm, hsj⟩ := hL d hd
  have e0 : (RB w b).fm d = w (b + 1) d := rfl
  have e1 : (RB w b).sj d = w (b + 2) d := rfl
  unfold oc oq
  rw [hpl, e0]
  by_cases f0 : w (b + 1) d = 0
  · obtain ⟨r, hr, hr10, hrd, hz⟩ := hsj (by omega)
    unfold cq at hs
    rw [e0, if_pos f0, e1, hr, Int.toNat_natCast] at hs
    have hsm := (hA.2.2.2.1 r s hr10).mp hs
    have hsl := hA.2.2.2.2.1 s hsm.1
    have hti : timely (w 103 6) (w 103 7) (w (t + 4)) d s = true := by unfold timely; rw [if_pos h6]
    rw [if_pos f0, if_pos f0]
    unfold tO tq
    rw [hti, if_pos rfl, e1, hr, if_pos (by omega), hsl.2.1, Int.toNat_natCast, Int.toNat_natCast, SA_co hr10]
    rfl
  · rw [if_neg f0, if_neg f0]
    unfold pO pq
    rw [tn_sg]
    rfl
theorem cq_CQ {w : World} {b t N E : Nat} {ρ c : Nat → Nat} {L : Nat → List Nat} (hA : AMod w t N ρ c L) (hsj : ∀ d, d < E → (RB w b).fm d = 0 → ∃ r : Nat, (RB w b).sj d = (r : Int) ∧ r < 10) : CQ (RB w b) N ρ E (cq (RB w b) L) := by
  intro d hd
  obtain ⟨a1, a2, a3, a4, a5, a6⟩ := hA
  unfold cq
  by_cases f0 : (RB w b).fm d = 0
  · obtain ⟨r, hr, hr10⟩ := hsj d hd f0
    rw [if_pos f0, hr, Int.toNat_natCast]
    refine ⟨(a6 r hr10).imp (fun {x y} hxy e => ?_), fun _ => ⟨fun s hs => ((a4 r s hr10).mp hs).1, fun s hs hρ => (a4 r s hr10).mpr ⟨hs, by omega⟩⟩, fun z => absurd f0 z⟩
    rw [e] at hxy
    exact absurd hxy (Nat.lt_irrefl _)
  · rw [if_neg f0]
    exact ⟨by simp, fun z => absurd z f0, fun _ => rfl⟩
theorem SlQ_A {w : World} {t n : Nat} {ρ c : Nat → Nat} {L : Nat → List Nat} (hA : AMod w t n ρ c L) (hV : VCs w n ρ c) : SlQ (SA w) n ρ c := fun s hs => by
  obtain ⟨a1, a2, a3, a4⟩ := hA.2.2.2.2.1 s hs
  refine ⟨a3, fun j h1 h2 => hV s hs j ?_ h2⟩
  rw [SA_co a1] at h1
  omega
theorem WfS.T {w : World} (h : WfS w) : WfT w := fun r hr => by
  obtain ⟨s3, s4, s5, s6, s7⟩ := h r hr
  exact ⟨s3, s4, s5, fun z => (s6 z).2, s7⟩
/-- the walk of a body in a model begins, with some values given -/
theorem walkA_it {w : World} {t b N E : Nat} {ρ c : Nat → Nat} {Lc : Nat → List Nat} {v0 : Nat → Int} (hkb : kdA b = 1) (hkt : kdA t = 6) (hS : WfS w) (hA : AMod w t N ρ c Lc) (hWf : WfL (SA w) (RB w b)) (hSL : SafeL (RB w b)) (hFew : Few (RB w b)) (hE : E ≤ (RB w b).ln) (hV0 : VV v0) : ItA b (en (oq (SA w) (AM N ρ c) (RB w b) ρ c) (cq (RB w b) Lc) E 0 v0 []) (setV (bg w b t E) v0) ∧ CQ (RB w b) N ρ E (cq (RB w b) Lc) ∧ WkQ (SA w) (RB w b) E ∧ (en (oq (SA w) (AM N ρ c) (RB w b) ρ c) (cq (RB w b) Lc) E 0 v0 []).length < 9999999 := by
  have hb1 := kd1 hkb
  have h6 := kd6 hkt
  have hQ := WkQ_le (WkQ_L hS.T hWf hSL) hE
  have hCQ : CQ (RB w b) N ρ E (cq (RB w b) Lc) := cq_CQ hA (fun d hd hf => by obtain ⟨r, hr, hr10, -⟩ := (hQ.2.1 d hd).2.2 (by omega); exact ⟨r, hr, hr10⟩)
  obtain ⟨R, hRB⟩ : ∃ R, R = RB w b := ⟨_, rfl⟩
  obtain ⟨hw5, hwfm, hwat, hwc, hwtm⟩ := id hWf
  obtain ⟨w1, hw1⟩ : ∃ w1, w1 = setV (bg w b t E) v0 := ⟨_, rfl⟩
  have hF : ∀ c, c < 103 ∨ 106 < c → w1 c = w c := fun c0 hc => by rw [hw1, setV_ne (by omega)]; exact bg_fr (by omega) (by omega)
  have g103 : ∀ k, w1 103 k = bg w b t E 103 k := fun k => by rw [hw1, setV_ne (by omega)]
  have g1 : w1 103 1 = (b : Int) := by rw [g103]; unfold bg; simp [up, setV]
  have g2 : w1 103 2 = (t : Int) := by rw [g103]; unfold bg; simp [up, setV]
  have g3 : w1 103 3 = (E : Int) := by rw [g103]; unfold bg; simp [up, setV]
  have g4 : w1 103 4 = 0 := by rw [g103]; unfold bg; simp [up, setV]
  have g5 : w1 103 5 = 1 := by rw [g103]; unfold bg; simp [up, setV]
  have g6 : w1 103 6 = -1 := by rw [g103]; unfold bg; simp [up, setV]
  have g104 : w1 104 = v0 := by rw [hw1]; exact setV_104
  have hpl : ∀ d, pl w1 d = d := fun d => by have := pl_cases w1 d; omega
  have hRB1 : RB w1 b = RB w b := RB_congr (hF b (by omega)) (hF _ (by omega)) (hF _ (by omega)) (hF _ (by omega))
  have e1 : ∀ q, w1 (b + 1) q = (RB w b).fm q := fun q => by rw [← hRB1]; rfl
  have e2 : ∀ q, w1 (b + 2) q = (RB w b).sj q := fun q => by rw [← hRB1]; rfl
  have e3 : ∀ q cc, w1 (b + 3) (3 * q + cc) = (RB w b).tm q cc := fun q cc => by rw [← hRB1]; rfl
  have hSA : SA w1 = SA w := SA_c5 (fun c _ _ => hF c (by omega))
  have hC : WkC w1 b t E N ρ c Lc := by
    refine ⟨by rw [g1, Int.toNat_natCast], hkb, by rw [g2, Int.toNat_natCast], hkt, g3, by omega, Or.inl g6, WfS_congr (fun c a b k => by rw [hF c (by omega)]) hS, AMod_congr (fun c a b => hF c (by omega)) (fun c a b => hF c (by omega)) hA, fun q hq => ⟨fun cc hcc => ?_, ?_, fun hf => ?_⟩, fun d hd hf cc hcc hf3 hneg => ?_⟩
    · rw [e3]; exact hwtm q cc (by omega) hcc
    · rw [e1]; exact hwfm q (by omega)
    · rw [e1] at hf
      obtain ⟨hc1, hc0⟩ := hwat q (by omega) hf
      obtain ⟨n, hn, hn10, hn3, hco⟩ := SA_co_in hc1
      refine ⟨n, by rw [e2]; exact hn, hn10, by rw [hF 3 (by omega)]; exact hn3, fun cc hcc hcc2 => ?_⟩
      rw [hF 3 (by omega)] at hcc2
      rw [e3]
      refine hc0 cc ?_ hcc
      rw [hco]
      omega
    · rw [hpl, e1] at hf hf3
      rw [hpl, e3] at hneg
      obtain ⟨j, c', hj, hc', hjf, hje⟩ := hSL d (by omega) hf cc hcc hf3 hneg
      exact ⟨j, c', hj, hc', by rw [hpl, e1]; exact hjf, by rw [hpl, hpl, e3, e3]; exact hje⟩
  have hP3 : cnt (isP w1 b) E ≤ 3 := by
    have : isP w1 b = fun p => decide ((RB w b).fm p = 0) := by
      funext q
      unfold isP
      rw [e1]
    rw [this]
    exact Nat.le_trans (cnt_mono hE) hFew
  have hB : mvB (isH w1 b) E 0 < 9999999 := mvB_5 (by omega) (by rw [cnt_isH (by omega) (Or.inl g6)]; exact hP3)
  have hI := ItA_begin hC g6 g4 g5 (by rw [g104]; exact hV0) hB
  have hen : en (oc w1 b t N ρ c) (cnd w1 b Lc) E 0 (w1 104) [] = en (oq (SA w) (AM N ρ c) (RB w b) ρ c) (cq (RB w b) Lc) E 0 v0 [] := by
    rw [g104]
    have ec : ∀ j, cnd w1 b Lc j = cq (RB w b) Lc j := fun j => by
      unfold cnd cq
      rw [hpl, e1, e2]
    refine en_same E 0 v0 [] (fun j vs s _ hj hs => ?_) (fun j _ hj => ec j)
    rw [oc_oq hC g6 (by omega) (by rw [hRB1]; exact hs), hRB1, hSA]
  have hlen := en_len (F := isH w1 b) (O := oc w1 b t N ρ c) (C := cnd w1 b Lc) E 0 (w1 104) [] (fun j _ hj => cnd_len hC (by omega))
  rw [hen] at hI hlen
  have hlen2 := wg_mvB (F := isH w1 b) E 0
  rw [← hw1]
  exact ⟨hI, hCQ, hQ, by omega⟩
