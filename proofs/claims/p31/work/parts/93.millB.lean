/-! THE REFERENCE'S ROUNDS: a tuple is taken in, and what is known of the model goes on -/
theorem BMod_OkM {w : World} {M n : Nat} {ρ c : Nat → Nat} (h : BMod w M n ρ c) : OkM (SA w) (AM n ρ c) := by
  obtain ⟨h1, h2, h3, h4, h5⟩ := h
  refine ⟨?_, ?_⟩
  · rintro r k ⟨x, hx, rfl, rfl⟩
    have := h4 x hx
    exact ⟨this.2.2.2.1, by rw [SA_co this.1]; have := this.2.2.2.2; omega⟩
  · rintro r k k' ⟨x, hx, rfl, rfl⟩ ⟨y, hy, hρ, rfl⟩ hz
    by_cases e : x = y
    · rw [e]
    · exact absurd hz (h5 x y hx hy e (by omega))
theorem upn_self {c : Nat → Nat} {x : Nat} : upn c x (c x) = c := by
  funext y
  by_cases e : y = x
  · subst e; rw [upn_eq]
  · rw [upn_ne e]
theorem takeB_le {w : World} {M n n' r m : Nat} {ρ c ρ' c' : Nat → Nat} {ch : Int} (hS : WfT w) (h : BMod w M n ρ c) (hr : r < 10) (hd : 1 ≤ w 3 r) (hm : m < 2097152) (hT : TakeB w n ρ c r m ch n' ρ' c') :
    n ≤ n' ∧ ∀ x, x < n → ρ' x = ρ x ∧ le (SA w) (ρ x) (c x) (c' x) := by
  have hco : 1 ≤ (SA w).co (r : Int) := by rw [SA_co hr]; omega
  rcases hT with ⟨x, hx, hρ, hz, rfl, rfl, rfl, -⟩ | ⟨hz, rfl, rfl, rfl, -⟩
  · refine ⟨Nat.le_refl _, fun y hy => ⟨rfl, ?_⟩⟩
    by_cases e : y = x
    · subst e
      rw [upn_eq, hρ]
      exact (le_jn hS.D hco (h.2.2.2.1 y hy).2.2.2.1 hm hz).1
    · rw [upn_ne e]; exact le_rfl
  · exact ⟨by omega, fun y hy => ⟨upn_ne (by omega), by rw [upn_ne (by omega)]; exact le_rfl⟩⟩
theorem takeB_has {w : World} {M n n' r m : Nat} {ρ c ρ' c' : Nat → Nat} {ch : Int} (hS : WfT w) (h : BMod w M n ρ c) (hr : r < 10) (hd : 1 ≤ w 3 r) (hm : m < 2097152) (hT : TakeB w n ρ c r m ch n' ρ' c') : ∃ k, AM n' ρ' c' (r : Int) k ∧ le (SA w) (r : Int) m k := by
  have hco : 1 ≤ (SA w).co (r : Int) := by rw [SA_co hr]; omega
  rcases hT with ⟨x, hx, hρ, hz, rfl, rfl, rfl, -⟩ | ⟨hz, rfl, rfl, rfl, -⟩
  · refine ⟨_, ⟨x, hx, by rw [hρ], rfl⟩, ?_⟩
    rw [upn_eq]
    exact (le_jn hS.D hco (h.2.2.2.1 x hx).2.2.2.1 hm hz).2
  · exact ⟨m, ⟨n, by omega, by rw [upn_eq], upn_eq⟩, le_rfl⟩
theorem takeB_snd {w : World} {M n n' r m : Nat} {ρ c ρ' c' : Nat → Nat} {ch : Int} (hS : WfT w) (h : BMod w M n ρ c) (hr : r < 10) (hd : 1 ≤ w 3 r) (hm : m < 2097152) (hT : TakeB w n ρ c r m ch n' ρ' c') {M' : MM} (hO : OkM (SA w) M') (h1 : ∀ k, AM n ρ c (r : Int) k → ∃ k', M' r k' ∧ le (SA w) r k k') (h2 : ∃ k', M' r k' ∧ le (SA w) r m k') : ∀ k, AM n' ρ' c' (r : Int) k → ∃ k', M' r k' ∧ le (SA w) r k k' := by
  have hco : 1 ≤ (SA w).co (r : Int) := by rw [SA_co hr]; omega
  rcases hT with ⟨x, hx, hρ, hz, rfl, rfl, rfl, -⟩ | ⟨hz, rfl, rfl, rfl, -⟩
  · rintro k ⟨y, hy, hρy, rfl⟩
    by_cases e : y = x
    · subst e
      rw [upn_eq]
      obtain ⟨k1, hk1, hl1⟩ := h1 (c y) ⟨y, hy, hρy, rfl⟩
      obtain ⟨k2, hk2, hl2⟩ := h2
      have : k1 = k2 := hO.2 _ _ _ hk1 hk2 (hl1.1.symm.trans (hz.trans hl2.1))
      subst this
      exact ⟨k1, hk1, jn_le hS.D hco (h.2.2.2.1 y hy).2.2.2.1 hm hl1 hl2⟩
    · rw [upn_ne e]
      exact h1 _ ⟨y, hy, hρy, rfl⟩
  · rintro k ⟨y, hy, hρy, rfl⟩
    by_cases e : y = n
    · subst e
      rw [upn_eq]
      exact h2
    · rw [upn_ne e] at hρy
      rw [upn_ne e]
      exact h1 _ ⟨y, by omega, hρy, rfl⟩
theorem takeB_oth {w : World} {n n' r m : Nat} {ρ c ρ' c' : Nat → Nat} {ch : Int} (hT : TakeB w n ρ c r m ch n' ρ' c') {q : Int} (hq : q ≠ r) (k : Nat) : AM n' ρ' c' q k ↔ AM n ρ c q k := by
  rcases hT with ⟨x, hx, hρ, hz, rfl, rfl, rfl, -⟩ | ⟨hz, rfl, rfl, rfl, -⟩
  · constructor
    · rintro ⟨y, hy, rfl, rfl⟩
      have e : y ≠ x := fun e => hq (by rw [e, hρ])
      exact ⟨y, hy, rfl, (upn_ne e).symm⟩
    · rintro ⟨y, hy, rfl, rfl⟩
      have e : y ≠ x := fun e => hq (by rw [e, hρ])
      exact ⟨y, hy, rfl, upn_ne e⟩
  · constructor
    · rintro ⟨y, hy, rfl, rfl⟩
      have e : y ≠ n := fun e => hq (by rw [e, upn_eq])
      exact ⟨y, by omega, by rw [upn_ne e], (upn_ne e).symm⟩
    · rintro ⟨y, hy, rfl, rfl⟩
      exact ⟨y, by omega, by rw [upn_ne (by omega)], upn_ne (by omega)⟩
theorem takeB_Vc {w w' : World} {n n' r m : Nat} {ρ c ρ' c' : Nat → Nat} {ch : Int} (h3 : w' 3 = w 3) (hV : VCs w n ρ c) (hm : Vc w r m) (hT : TakeB w n ρ c r m ch n' ρ' c') : VCs w' n' ρ' c' := by
  have e : ∀ q k, Vc w' q k ↔ Vc w q k := fun q k => by unfold Vc; rw [h3]
  intro s hs
  rw [e]
  rcases hT with ⟨x, hx, hρ, hz, rfl, rfl, rfl, -⟩ | ⟨hz, rfl, rfl, rfl, -⟩
  · by_cases q : s = x
    · subst q
      rw [upn_eq]
      exact jn_Vc (hV s hs) (by rw [hρ]; exact hm)
    · rw [upn_ne q]; exact hV s hs
  · by_cases q : s = n
    · subst q
      rw [upn_eq, upn_eq]; exact hm
    · rw [upn_ne q, upn_ne q]; exact hV s (by omega)
/-- what is known of a model that is made -/
def SB (D : SH) (lv : Int → Nat) (FF : MM) (RR : RU → Prop) (sl M : Nat) (w : World) (n : Nat) (ρ c : Nat → Nat) : Prop :=
  WfT w ∧ SA w = D ∧ BMod w M n ρ c ∧ VCs w n ρ c ∧ Snd D lv FF RR (AM n ρ c) sl ∧ (∀ x, x < n → lv (ρ x) ≤ sl) ∧ VB w
/-- the world but for a model and the walk -/
def FrR (M : Nat) (w w' : World) : Prop := (∀ c k, c ≠ 20 → c ≠ 21 → c ≠ 22 → c ≠ 23 → c ≠ 24 → c ≠ 25 → ¬ (c = 1 ∧ (k = 29 ∨ k = 30)) → w' c k = w c k) ∧ (∀ k, k ≠ M → w' 20 k = w 20 k) ∧ (∀ k, ¬ (50 * M ≤ k ∧ k < 50 * M + 50) → w' 21 k = w 21 k) ∧ ∀ k, ¬ (150 * M ≤ k ∧ k < 150 * M + 150) → w' 22 k = w 22 k
theorem FrR.refl {M : Nat} {w : World} : FrR M w w := ⟨fun _ _ _ _ _ _ _ _ _ => rfl, fun _ _ => rfl, fun _ _ => rfl, fun _ _ => rfl⟩
theorem FrR.trans {M : Nat} {w w' w'' : World} (h : FrR M w w') (h' : FrR M w' w'') : FrR M w w'' := ⟨fun c k a b d e f g i => (h'.1 c k a b d e f g i).trans (h.1 c k a b d e f g i), fun k a => (h'.2.1 k a).trans (h.2.1 k a), fun k a => (h'.2.2.1 k a).trans (h.2.2.1 k a), fun k a => (h'.2.2.2 k a).trans (h.2.2.2 k a)⟩
theorem FrR.cell {M : Nat} {w w' : World} (h : FrR M w w') {c : Nat} (h1 : c ≠ 1) (h2 : c < 20 ∨ 25 < c) : w' c = w c := funext (fun k => h.1 c k (by omega) (by omega) (by omega) (by omega) (by omega) (by omega) (fun z => h1 z.1))
theorem FrR.f {M : Nat} {w w' : World} (h : FrR M w w') {k : Nat} (h1 : k ≠ 29) (h2 : k ≠ 30) : w' 1 k = w 1 k := h.1 1 k (by decide) (by decide) (by decide) (by decide) (by decide) (by decide) (fun z => z.2.elim h1 h2)
theorem FrQ.toR {M : Nat} {w w' : World} (h : FrQ w w') : FrR M w w' := ⟨fun c k _ _ _ d e f g => h c k d e f g, fun k _ => h 20 k (by decide) (by decide) (by decide) (fun z => by omega), fun k _ => h 21 k (by decide) (by decide) (by decide) (fun z => by omega), fun k _ => h 22 k (by decide) (by decide) (by decide) (fun z => by omega)⟩
theorem FrB.toR {M : Nat} {w w' : World} (h : FrB M w w') : FrR M w w' := ⟨fun c k a b d _ _ _ _ => congrFun (h.1 c a b d) k, h.2.1, h.2.2.1, h.2.2.2⟩
def EvB (D : SH) (lv : Int → Nat) (sl M : Nat) (w : World) (n : Nat) (ρ c : Nat → Nat) (w' : World) (n' : Nat) (ρ' c' : Nat → Nat) : Prop :=
  FrR M w w' ∧ n ≤ n' ∧ (∀ x, x < n → ρ' x = ρ x ∧ le D (ρ x) (c x) (c' x)) ∧ ∀ q k, lv q ≠ sl → (AM n' ρ' c' q k ↔ AM n ρ c q k)
theorem EvB.refl {D : SH} {lv : Int → Nat} {sl M n : Nat} {w : World} {ρ c : Nat → Nat} : EvB D lv sl M w n ρ c w n ρ c := ⟨FrR.refl, Nat.le_refl _, fun _ _ => ⟨rfl, le_rfl⟩, fun _ _ _ => Iff.rfl⟩
theorem EvB.fr {D : SH} {lv : Int → Nat} {sl M n : Nat} {w w' : World} {ρ c : Nat → Nat} (h : FrR M w w') : EvB D lv sl M w n ρ c w' n ρ c := ⟨h, Nat.le_refl _, fun _ _ => ⟨rfl, le_rfl⟩, fun _ _ _ => Iff.rfl⟩
theorem EvB.trans {D : SH} {lv : Int → Nat} {sl M n n' n'' : Nat} {w w' w'' : World} {ρ c ρ' c' ρ'' c'' : Nat → Nat} (h : EvB D lv sl M w n ρ c w' n' ρ' c') (h' : EvB D lv sl M w' n' ρ' c' w'' n'' ρ'' c'') : EvB D lv sl M w n ρ c w'' n'' ρ'' c'' := by
  obtain ⟨a1, a2, a3, a4⟩ := h
  obtain ⟨b1, b2, b3, b4⟩ := h'
  refine ⟨a1.trans b1, by omega, fun x hx => ?_, fun q k hq => (b4 q k hq).trans (a4 q k hq)⟩
  have p := a3 x hx
  have q := b3 x (by omega)
  rw [p.1] at q
  exact ⟨q.1, le_trans' p.2 q.2⟩
theorem EvB.Ph {D : SH} {lv : Int → Nat} {sl M n n' : Nat} {w w' : World} {ρ c ρ' c' : Nat → Nat} (hD : WfD D) (h : EvB D lv sl M w n ρ c w' n' ρ' c') : Ph D ρ c n ≤ Ph D ρ' c' n' := Nat.le_trans (Ph_le0 hD n h.2.2.1) (Ph_mono h.2.1)
theorem EvB.cov {D : SH} {lv : Int → Nat} {sl M n n' : Nat} {w w' : World} {ρ c ρ' c' : Nat → Nat} (h : EvB D lv sl M w n ρ c w' n' ρ' c') {r : Int} {k : Nat} (hk : AM n ρ c r k) : ∃ k', AM n' ρ' c' r k' ∧ le D r k k' := by
  obtain ⟨x, hx, rfl, rfl⟩ := hk
  have := h.2.2.1 x hx
  exact ⟨c' x, ⟨x, Nat.lt_of_lt_of_le hx h.2.1, by rw [this.1], rfl⟩, this.2⟩
theorem VCs_3 {w w' : World} {n : Nat} {ρ c : Nat → Nat} (h3 : w' 3 = w 3) (h : VCs w n ρ c) : VCs w' n ρ c := fun s hs => by
  unfold Vc
  rw [h3]
  exact h s hs
theorem SB_FrQ {D : SH} {lv : Int → Nat} {FF : MM} {RR : RU → Prop} {sl M n : Nat} {w w' : World} {ρ c : Nat → Nat} (h : FrQ w w') (hV : VB w') (hS : SB D lv FF RR sl M w n ρ c) : SB D lv FF RR sl M w' n ρ c := by
  obtain ⟨a1, a2, a3, a4, a5, a6, a7⟩ := hS
  exact ⟨WfT_congr (fun c a b => h.cell (by omega) (by omega)) a1, h.SA.trans a2, BMod_congr (fun k hk => h.cell (by omega) (by omega)) a3, VCs_3 (h.cell (by omega) (by omega)) a4, a5, a6, hV⟩
theorem takeB_step {D : SH} {lv : Int → Nat} {FF : MM} {RR : RU → Prop} {sl M n r m : Nat} {w : World} {ρ c : Nat → Nat} (hSB : SB D lv FF RR sl M w n ρ c) (hn : n ≤ 48) (hr : r < 10) (hlv : lv (r : Int) = sl) (hd : 1 ≤ w 3 r) (hm : m < 2097152) (hVm : Vc w r m)
    (hso : ∀ M', OkM D M' → Agb lv sl (AM n ρ c) M' → Closed D lv FF RR M' sl → ∃ k, M' (r : Int) k ∧ le D r m k) :
    ∃ w' ch n' ρ' c', f_Re_take w (M : Int) (r : Int) ((clm m 0 : Nat) : Int) ((clm m 1 : Nat) : Int) ((clm m 2 : Nat) : Int) = some (w', ch) ∧ FrB M w w' ∧ SB D lv FF RR sl M w' n' ρ' c' ∧ EvB D lv sl M w n ρ c w' n' ρ' c' ∧ (ch = 0 ∨ (ch = 1 ∧ Ph D ρ c n < Ph D ρ' c' n')) ∧ (ch = 0 → n' = n ∧ ρ' = ρ ∧ c' = c) ∧ ∃ k, AM n' ρ' c' (r : Int) k ∧ le D (r : Int) m k := by
  obtain ⟨hS, hD, hB, hV, hSn, hlvl, hVB⟩ := hSB
  obtain ⟨w', ch, n', ρ', c', he, hF, hB', hT⟩ := takeB_n hS hB hV hn hr hd hm hVm
  have hle := takeB_le hS hB hr hd hm hT
  have hhas := takeB_has hS hB hr hd hm hT
  have e : ∀ c0, c0 < 20 → w' c0 = w c0 := fun c0 h => hF.1 c0 (by omega) (by omega) (by omega)
  have hSA : SA w' = SA w := SA_c5 (fun c a b => e c (by omega))
  have hag : ∀ M', Agb lv sl (AM n' ρ' c') M' → Agb lv sl (AM n ρ c) M' := fun M' h q k hq => (takeB_oth hT (show q ≠ (r : Int) from fun e => by rw [e, hlv] at hq; omega) k).symm.trans (h q k hq)
  have hDD : WfD D := hD ▸ hS.D
  have hle' : ∀ x, x < n → ρ' x = ρ x ∧ le D (ρ x) (c x) (c' x) := by rw [← hD]; exact hle.2
  refine ⟨w', ch, n', ρ', c', he, hF, ⟨WfT_congr (fun c a b => e c (by omega)) hS, hSA.trans hD, hB', takeB_Vc (e 3 (by omega)) hV hVm hT, ?_, ?_, ?_⟩, ⟨hF.toR, hle.1, hle', fun q k hq => takeB_oth hT (fun e => hq (by rw [e]; exact hlv)) k⟩, ?_, ?_, by rw [← hD]; exact hhas⟩
  · intro M' hO hg hC r' k hr' hk
    by_cases e : r' = (r : Int)
    · subst e
      have := takeB_snd hS hB hr hd hm hT (M' := M') (by rw [hD]; exact hO) (by rw [hD]; exact fun k hk => hSn M' hO (hag M' hg) hC _ k hr' hk) (by rw [hD]; exact hso M' hO (hag M' hg) hC) k hk
      rw [hD] at this
      exact this
    · exact hSn M' hO (hag M' hg) hC r' k hr' ((takeB_oth hT e k).mp hk)
  · intro x hx
    by_cases q : x < n
    · rw [(hle.2 x q).1]; exact hlvl x q
    · rcases hT with ⟨x0, hx0, hρ, hz, rfl, rfl, rfl, -⟩ | ⟨hz, rfl, rfl, rfl, -⟩
      · exact absurd hx q
      · have : x = n := by omega
        rw [this, upn_eq, hlv]; exact Nat.le_refl _
  · intro v hv
    rw [hF.1 24 (by decide) (by decide) (by decide)] at hv
    rw [hF.1 23 (by decide) (by decide) (by decide)]
    exact hVB v hv
  · rcases hT with ⟨x0, hx0, hρ, hz, hn', hρ', hc', hh⟩ | ⟨hz, hn', hρ', hc', hh⟩
    · rcases hh with ⟨h1, h2⟩ | ⟨h1, h2⟩
      · exact Or.inl h1
      · refine Or.inr ⟨h1, ?_⟩
        have hsx := hB.2.2.2.1 x0 hx0
        have hsx' := hB'.2.2.2.1 x0 (by omega)
        have h3 := (hle' x0 hx0).2
        have hco : 1 ≤ D.co (ρ x0 : Int) := by
          rw [← hD, SA_co hsx.1]
          have := hsx.2.2.2.2
          omega
        rw [hn']
        refine Ph_lt0 hDD n hle' ⟨x0, hx0, fun e => ?_⟩
        have e2 : c x0 = c' x0 := le_anti hDD hco hsx.2.2.2.1 hsx'.2.2.2.1 h3 ⟨h3.1.symm, by rw [← e]; exact lastle_rfl⟩
        rw [hc', upn_eq] at e2
        exact h2 e2.symm
    · refine Or.inr ⟨hh, ?_⟩
      have h4 := Ph_le0 hDD n hle'
      rw [hn']
      show _ < Ph D ρ' c' n + (1 + _)
      omega
  · intro h0
    rcases hT with ⟨x0, hx0, hρ, hz, hn', hρ', hc', hh⟩ | ⟨hz, hn', hρ', hc', hh⟩
    · rcases hh with ⟨h1, h2⟩ | ⟨h1, h2⟩
      · refine ⟨hn', hρ', ?_⟩
        rw [hc', h2]
        exact upn_self
      · omega
    · omega
/-- too many tuples: every closed set has as many -/
theorem SB_over {D : SH} {lv : Int → Nat} {FF : MM} {RR : RU → Prop} {sl M : Nat} {w : World} {ρ c : Nat → Nat} (hSB : SB D lv FF RR sl M w 49 ρ c) : OvB D lv FF RR sl (AM 49 ρ c) := by
  obtain ⟨hS, hD, hB, hV, hSn, hlvl, hVB⟩ := hSB
  intro M' hO hg hC
  have hsel : ∀ x, x < 49 → ∃ k, M' (ρ x : Int) k ∧ le D (ρ x) (c x) k := fun x hx => by
    by_cases q : lv (ρ x : Int) < sl
    · exact ⟨c x, (hg _ _ q).mp ⟨x, hx, rfl, rfl⟩, le_rfl⟩
    · have := hlvl x hx
      exact hSn M' hO hg (hC sl) _ _ (by omega) ⟨x, hx, rfl, rfl⟩
  have hf : ∃ f : Nat → Nat, ∀ x, x < 49 → M' (ρ x : Int) (f x) ∧ le D (ρ x) (c x) (f x) := by
    classical
    exact ⟨fun x => if h : x < 49 then (hsel x h).choose else 0, fun x hx => by
      show M' (ρ x : Int) (if h : x < 49 then (hsel x h).choose else 0) ∧ le D (ρ x) (c x) (if h : x < 49 then (hsel x h).choose else 0)
      rw [dif_pos hx]; exact (hsel x hx).choose_spec⟩
  obtain ⟨f, hf⟩ := hf
  refine ⟨(List.range 49).map (fun x => ((ρ x : Int), f x)), nodup_map List.nodup_range (fun x y hx hy e => ?_), by simp, ?_⟩
  · have hx := List.mem_range.mp hx
    have hy := List.mem_range.mp hy
    injection e with p1 p2
    refine Classical.byContradiction fun hne => ?_
    have hρ : ρ x = ρ y := by omega
    have h1 := (hf x (by omega)).2.1
    have h2 := (hf y (by omega)).2.1
    have h3 := hB.2.2.2.2 x y hx hy hne hρ
    rw [hD] at h3
    rw [← hρ] at h2
    exact h3 (by rw [h1, h2, p2])
  · intro x hx
    obtain ⟨y, hy, e⟩ := List.mem_map.mp hx
    have hy := List.mem_range.mp hy
    rw [← e]
    exact (hf y (by omega)).1
