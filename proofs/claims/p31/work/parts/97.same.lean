/-! BOTH: rules alike; the least model is one, and not too large for one of them alone -/
theorem agb_uni {D : SH} {lv : Int → Nat} {FF : MM} {RR : RU → Prop} {M M' : MM} (hD : WfD D) (hO : OkM D M) (hO' : OkM D M') : ∀ s, (∀ s', s' < s → Closed D lv FF RR M s' ∧ Snd D lv FF RR M s') → (∀ s', s' < s → Closed D lv FF RR M' s' ∧ Snd D lv FF RR M' s') → Agb lv s M M' := by
  intro s
  induction s with
  | zero => intro _ _ r n hr; omega
  | succ s ih =>
    intro h h' r n hr
    have ih := ih (fun s' hs => h s' (by omega)) (fun s' hs => h' s' (by omega))
    by_cases hs : lv r < s
    · exact ih r n hs
    · have e : lv r = s := by omega
      have one : ∀ {X Y : MM}, OkM D X → OkM D Y → (Closed D lv FF RR X s ∧ Snd D lv FF RR X s) → (Closed D lv FF RR Y s ∧ Snd D lv FF RR Y s) → Agb lv s X Y → Agb lv s Y X → X r n → Y r n := by
        intro X Y oX oY hX hY hXY hYX hx
        obtain ⟨m, hm, hle⟩ := hX.2 Y oY hXY hY.1 r n e hx
        obtain ⟨o, ho, hle2⟩ := hY.2 X oX hYX hX.1 r m e hm
        have e1 : n = o := oX.2 r n o hx ho (hle.1.trans hle2.1)
        subst e1
        have e2 : n = m := le_anti hD (oX.1 r n hx).2 (oX.1 r n hx).1 (oY.1 r m hm).1 hle hle2
        rw [e2]
        exact hm
      exact ⟨one hO hO' (h s (by omega)) (h' s (by omega)) ih (agb_symm ih), one hO' hO (h' s (by omega)) (h s (by omega)) (agb_symm ih) ih⟩
theorem inj_len {α : Type} {n : Nat} {f : Nat → α} {l : List α} (hl : l.Nodup) (h : ∀ x, x ∈ l → ∃ i, i < n ∧ f i = x) : l.length ≤ n := by
  classical
  have hg : ∀ x, ∃ i, x ∈ l → i < n ∧ f i = x := fun x => by
    by_cases q : x ∈ l
    · obtain ⟨i, hi⟩ := h x q; exact ⟨i, fun _ => hi⟩
    · exact ⟨0, fun z => absurd z q⟩
  have h2 : (l.map (fun x => (hg x).choose)).Nodup := nodup_map hl (fun x y hx hy e => by
    have a := ((hg x).choose_spec hx).2
    have b := ((hg y).choose_spec hy).2
    have e : (hg x).choose = (hg y).choose := e
    rw [← a, ← b, e])
  have h3 := nodup_len n _ h2 (fun x hx => by
    obtain ⟨y, hy, e⟩ := List.mem_map.mp hx
    rw [← e]
    exact ((hg y).choose_spec hy).1)
  rwa [List.length_map] at h3
theorem over_no {D : SH} {lv : Int → Nat} {FF : MM} {RR : RU → Prop} {M : MM} {sl n : Nat} {ρ c : Nat → Nat} (hD : WfD D) (hO : OkM D M) (ho : OverR D lv FF RR sl M) (hn : n ≤ 48) (hL : Least D lv FF RR (AM n ρ c)) : False := by
  obtain ⟨s, hs, h1, h2⟩ := ho
  have hag := agb_uni hD hO hL.1 s h1 (fun s' _ => hL.2 s')
  obtain ⟨l, l1, l2, l3⟩ := h2 _ hL.1 hag (fun s => (hL.2 s).1)
  have := inj_len (n := n) (f := fun x => ((ρ x : Int), c x)) l1 (fun x hx => by
    obtain ⟨i, hi, e1, e2⟩ := l3 x hx
    exact ⟨i, hi, by show ((ρ i : Int), c i) = x; rw [e1, e2]⟩)
  omega
/-- rules alike as far as they go -/
def RE (R R' : RU) : Prop := R'.ln = R.ln ∧ (∀ p, p < R.ln → R'.fm p = R.fm p ∧ R'.sj p = R.sj p ∧ ∀ c, c < 3 → R'.tm p c = R.tm p c) ∧ R'.tg = R.tg ∧ ∀ c, c < 3 → R'.ht c = R.ht c
theorem RE.refl {R : RU} : RE R R := ⟨rfl, fun _ _ => ⟨rfl, rfl, fun _ _ => rfl⟩, rfl, fun _ _ => rfl⟩
theorem RE.symm {R R' : RU} (h : RE R R') : RE R' R := ⟨h.1.symm, fun p hp => by rw [h.1] at hp; have := h.2.1 p hp; exact ⟨this.1.symm, this.2.1.symm, fun c hc => (this.2.2 c hc).symm⟩, h.2.2.1.symm, fun c hc => (h.2.2.2 c hc).symm⟩
theorem RE.trans {R R' R'' : RU} (h : RE R R') (h' : RE R' R'') : RE R R'' := ⟨h'.1.trans h.1, fun p hp => by have a := h.2.1 p hp; have b := h'.2.1 p (by rw [h.1]; exact hp); exact ⟨b.1.trans a.1, b.2.1.trans a.2.1, fun c hc => (b.2.2 c hc).trans (a.2.2 c hc)⟩, h'.2.2.1.trans h.2.2.1, fun c hc => (h'.2.2.2 c hc).trans (h.2.2.2 c hc)⟩
theorem tc_congr {σ : Nat → Nat} {f g : Nat → Int} (h : ∀ c, c < 3 → g c = f c) : tc σ g = tc σ f := by
  unfold tc
  rw [h 0 (by omega), h 1 (by omega), h 2 (by omega)]
theorem RE.litq {M : MM} {R R' : RU} {σ : Nat → Nat} {p : Nat} (h : RE R R') (hp : p < R.ln) : lit M R' σ p ↔ lit M R σ p := by
  obtain ⟨a, b, d⟩ := h.2.1 p hp
  have e0 : R'.tm p 0 = R.tm p 0 := d 0 (by omega)
  have e1 : R'.tm p 1 = R.tm p 1 := d 1 (by omega)
  have e2 : R'.tm p 2 = R.tm p 2 := d 2 (by omega)
  have et : tc σ (R'.tm p) = tc σ (R.tm p) := tc_congr d
  unfold lit
  rw [a, b, e0, e1, e2, et]
theorem RE.sat {M : MM} {R R' : RU} {σ : Nat → Nat} (h : RE R R') : Sat M R' σ ↔ Sat M R σ := by
  unfold Sat
  refine and_congr_right (fun _ => ?_)
  rw [h.1]
  exact forall_congr' fun p => forall_congr' fun hp => h.litq hp
theorem RE.hd {R R' : RU} {σ : Nat → Nat} (h : RE R R') : tc σ R'.ht = tc σ R.ht := tc_congr h.2.2.2
/-- sets of rules alike -/
def RS (RR RR' : RU → Prop) : Prop := (∀ R, RR R → ∃ R', RR' R' ∧ RE R R') ∧ ∀ R', RR' R' → ∃ R, RR R ∧ RE R R'
theorem RS.symm {RR RR' : RU → Prop} (h : RS RR RR') : RS RR' RR := ⟨fun R hR => by obtain ⟨R', a, b⟩ := h.2 R hR; exact ⟨R', a, b.symm⟩, fun R hR => by obtain ⟨R', a, b⟩ := h.1 R hR; exact ⟨R', a, b.symm⟩⟩
theorem RS.closed {D : SH} {lv : Int → Nat} {FF : MM} {RR RR' : RU → Prop} {M : MM} {s : Nat} (h : RS RR RR') (hC : Closed D lv FF RR M s) : Closed D lv FF RR' M s := by
  refine ⟨hC.1, fun R' hR' hs σ hS => ?_⟩
  obtain ⟨R, hR, e⟩ := h.2 R' hR'
  have := hC.2 R hR (by rw [← e.2.2.1]; exact hs) σ (e.sat.mp hS)
  rw [e.2.2.1, e.hd]
  exact this
theorem RS.snd {D : SH} {lv : Int → Nat} {FF : MM} {RR RR' : RU → Prop} {M : MM} {s : Nat} (h : RS RR RR') (hS : Snd D lv FF RR M s) : Snd D lv FF RR' M s := fun M' hO hg hC => hS M' hO hg (h.symm.closed hC)
theorem RS.least {D : SH} {lv : Int → Nat} {FF : MM} {RR RR' : RU → Prop} {M : MM} (h : RS RR RR') (hL : Least D lv FF RR M) : Least D lv FF RR' M := ⟨hL.1, fun s => ⟨h.closed (hL.2 s).1, h.snd (hL.2 s).2⟩⟩
theorem RS.over {D : SH} {lv : Int → Nat} {FF : MM} {RR RR' : RU → Prop} {M : MM} {sl : Nat} (h : RS RR RR') (hL : OverR D lv FF RR sl M) : OverR D lv FF RR' sl M := by
  obtain ⟨s, hs, h1, h2⟩ := hL
  exact ⟨s, hs, fun s' hs' => ⟨h.closed (h1 s' hs').1, h.snd (h1 s' hs').2⟩, fun M' hO hg hC => h2 M' hO hg (fun s => h.symm.closed (hC s))⟩
theorem cnt_congr {P Q : Nat → Bool} {n : Nat} (h : ∀ i, i < n → P i = Q i) : cnt P n = cnt Q n := by
  induction n with
  | zero => rfl
  | succ n ih =>
    show cnt P n + _ = cnt Q n + _
    rw [ih (fun i hi => h i (by omega)), h n (by omega)]
theorem RE.mnq {R R' : RU} (h : RE R R') {t : Int} : mn R' t = mn R t := by
  unfold mn
  refine cnt_congr (fun i hi => ?_)
  unfold acP
  rw [h.1]
  by_cases h1 : i / 3 < R.ln
  · by_cases h2 : i < 15
    · have e : ta R' i = ta R i := by
        unfold ta
        rw [if_pos h2, if_pos h2]
        exact (h.2.1 (i / 3) h1).2.2 (i % 3) (Nat.mod_lt _ (by omega))
      rw [e]
    · have e : ta R' i = ta R i := by
        unfold ta
        rw [if_neg h2, if_neg h2]
        exact h.2.2.2 (i - 15) (by omega)
      rw [e]
  · by_cases h2 : i < 15
    · have : decide (15 ≤ i) = false := decide_eq_false (by omega)
      rw [decide_eq_false h1, this]
      rfl
    · have e : ta R' i = ta R i := by
        unfold ta
        rw [if_neg h2, if_neg h2]
        exact h.2.2.2 (i - 15) (by omega)
      rw [e]
theorem RE.gr {D : SH} {R R' : RU} (hD : WfD D) (hR : WfR D R) (h : RE R R') {p : Nat} (hp : p < R.ln) (hf : R.fm p = 0) (hg : Gr D R p) : Gr D R' p := by
  obtain ⟨a, b, d⟩ := h.2.1 p hp
  have hc1 := (hR.2.2.1 p hp (by omega)).1
  have hc3 := (hD (R.sj p)).1
  have ht1 := hR.2.2.2.2.1.1
  have ht3 := (hD R.tg).1
  have et : R'.tm p (D.co (R'.sj p) - 1) = R.tm p (D.co (R.sj p) - 1) := by rw [b]; exact d _ (by omega)
  have eh : R'.ht (D.co R'.tg - 1) = R.ht (D.co R.tg - 1) := by rw [h.2.2.1]; exact h.2.2.2 _ (by omega)
  have hg' := hg
  unfold Gr at hg' ⊢
  rw [et, eh, b, h.2.2.1]
  simp only [h.mnq]
  refine ⟨hg'.1, hg'.2.imp (fun z => z) (fun z => z.imp (fun z => z) (fun z => ?_))⟩
  obtain ⟨z1, z2, z3, q, hq, z4, z5, z6, z7, z8⟩ := z
  obtain ⟨a', b', d'⟩ := h.2.1 q hq
  exact ⟨z1, z2, z3, q, by rw [h.1]; exact hq, by rw [a']; exact z4, by rw [d' 1 (by omega), d' 2 (by omega)]; exact z5, by rw [d' 0 (by omega)]; exact z6, by rw [d' 0 (by omega)]; exact z7, by rw [d' 0 (by omega)]; exact z8⟩
theorem RE.wf {D : SH} {R R' : RU} (h : RE R R') (hR : WfR D R) : WfR D R' := by
  obtain ⟨h5, h2, h3, h4, h6, h7, h8⟩ := hR
  refine ⟨by rw [h.1]; exact h5, fun p hp => ?_, fun p hp hf => ?_, fun p hp hf => ?_, ⟨by rw [h.2.2.1]; exact h6.1, fun c hc hc3 => ?_⟩, fun p c hp hc => ?_, fun c hc => ?_⟩
  · rw [h.1] at hp
    rw [(h.2.1 p hp).1]; exact h2 p hp
  · rw [h.1] at hp
    obtain ⟨a, b, d⟩ := h.2.1 p hp
    rw [a] at hf
    have := h3 p hp hf
    exact ⟨by rw [b]; exact this.1, fun c hc hc3 => by rw [b] at hc; rw [d c hc3]; exact this.2 c hc hc3⟩
  · rw [h.1] at hp
    obtain ⟨a, b, d⟩ := h.2.1 p hp
    rw [a] at hf
    rw [d 2 (by omega)]; exact h4 p hp hf
  · rw [h.2.2.1] at hc
    rw [h.2.2.2 c hc3]; exact h6.2 c hc hc3
  · rw [h.1] at hp
    rw [(h.2.1 p hp).2.2 c hc]; exact h7 p c hp hc
  · rw [h.2.2.2 c hc]; exact h8 c hc
theorem RE.safeL {R R' : RU} (h : RE R R') (hS : SafeL R) : SafeL R' := by
  intro p hp hf cc hcc h3 hn
  rw [h.1] at hp
  obtain ⟨a, b, d⟩ := h.2.1 p hp
  rw [a] at hf h3
  rw [d cc hcc] at hn ⊢
  obtain ⟨j, c', hj, hc', hjf, he⟩ := hS p hp hf cc hcc h3 hn
  obtain ⟨a', b', d'⟩ := h.2.1 j (by omega)
  exact ⟨j, c', hj, hc', by rw [a']; exact hjf, by rw [d' c' hc']; exact he⟩
theorem RE.safeH {R R' : RU} (h : RE R R') (hS : SafeH R) : SafeH R' := by
  intro cc hcc hn
  rw [h.2.2.2 cc hcc] at hn ⊢
  obtain ⟨j, c', hj, hc', hjf, he⟩ := hS cc hcc hn
  obtain ⟨a', b', d'⟩ := h.2.1 j hj
  exact ⟨j, c', by rw [h.1]; exact hj, hc', by rw [a']; exact hjf, by rw [d' c' hc']; exact he⟩
theorem RE.few {R R' : RU} (h : RE R R') (hS : Few R) : Few R' := by
  unfold Few at hS ⊢
  rw [h.1]
  have : cnt (fun p => decide (R'.fm p = 0)) R.ln = cnt (fun p => decide (R.fm p = 0)) R.ln := cnt_congr (fun i hi => by show decide (R'.fm i = 0) = decide (R.fm i = 0); rw [(h.2.1 i hi).1])
  rw [this]
  exact hS
theorem RS.lev {D : SH} {lv : Int → Nat} {RR RR' : RU → Prop} (hD : WfD D) (h : RS RR RR') (hL : Lev D lv RR) : Lev D lv RR' := by
  intro R' hR'
  obtain ⟨R, hR, e⟩ := h.2 R' hR'
  obtain ⟨hWf, hl⟩ := hL R hR
  refine ⟨e.wf hWf, fun p hp => ?_⟩
  rw [e.1] at hp
  obtain ⟨a, b, d⟩ := e.2.1 p hp
  have := hl p hp
  rw [a, b, e.2.2.1]
  refine ⟨fun f0 => ⟨(this.1 f0).1, fun hk hg => (this.1 f0).2 hk (fun g => hg (e.gr hD hWf hp f0 g))⟩, this.2⟩
