/-! THE REFERENCE'S WALK: what it finds, one by one -/
def GBw (w w' : World) : Prop := ∀ c k, c ≠ 26 → c ≠ 27 → c ≠ 28 → ¬ (c = 1 ∧ k = 32) → w' c k = w c k
theorem GBw.refl {w : World} : GBw w w := fun _ _ _ _ _ _ => rfl
theorem GBw.cell {w w' : World} (h : GBw w w') {c : Nat} (h1 : c ≠ 1) (h2 : c < 26 ∨ 28 < c) : w' c = w c := funext fun k => h c k (by omega) (by omega) (by omega) (fun z => h1 z.1)
theorem WkB_lo {w w' : World} {ru M E n : Nat} {ρ c : Nat → Nat} (e : ∀ k, 3 ≤ k → k ≤ 22 → w' k = w k) (hC : WkB w ru M E n ρ c) : WkB w' ru M E n ρ c := by
  obtain ⟨a1, a2, a3, a4, a5, a6⟩ := hC
  have hSA : SA w' = SA w := SA_c5 (fun c h1 h2 => e c h1 (by omega))
  have hR : RBB w' ru = RBB w ru := RBB_congr (fun c h1 h2 => e c (by omega) (by omega)) ru
  exact ⟨a1, WfT_congr (fun c h1 h2 => e c h1 (by omega)) a2, BMod_congr (fun k hk => e k (by omega) (by omega)) a3, a4, by rw [hSA, hR]; exact a5, by rw [hSA]; exact a6⟩
def ItB (ru E M : Nat) : List ((Nat → Int) × List Nat) → World → Prop
  | [], w => ∃ w', f_Re_next w (ru : Int) (E : Int) (M : Int) = some (w', 0) ∧ FrQ w w' ∧ VB w'
  | x :: xs, w => ∃ w', f_Re_next w (ru : Int) (E : Int) (M : Int) = some (w', 1) ∧ FrQ w w' ∧ VB w' ∧ vB w' = x.1 ∧ ∀ w'', GBw w' w'' → ItB ru E M xs w''
def QT2 : Nat → (Nat → Int) → Prop := fun _ _ => True
theorem ItB_st {ru E M n : Nat} {ρ c : Nat → Nat} : ∀ (xs : List ((Nat → Int) × List Nat)) (w : World) (st : List FR2), WkB w ru M E n ρ c → VB w → ByQ w E → w 1 30 = 1 → st.length = E → StQ (RBB w ru) n QT2 w st (vB w) → remQ (oq (SA w) (AM n ρ c) (RBB w ru) ρ c) (RBB w ru) n E st = xs → ItB ru E M xs w := by
  intro xs
  induction xs with
  | nil =>
    intro w st hC hV hby h30 hlen hS hr
    have h := nextQ_again hC (fun _ _ _ _ _ _ _ _ _ => trivial) hV hby h30 hlen hS
    rw [hr] at h
    obtain ⟨w', k1, k2, k3, k4⟩ := h
    exact ⟨w', k1, k2, k4⟩
  | cons x xs ih =>
    intro w st hC hV hby h30 hlen hS hr
    have h := nextQ_again hC (fun _ _ _ _ _ _ _ _ _ => trivial) hV hby h30 hlen hS
    rw [hr] at h
    obtain ⟨w', st', k1, k2, k3, k4, k5, k6, k7, k8, k9, -, k11⟩ := h
    refine ⟨w', k1, k2, k5, k6, fun w'' hG => ?_⟩
    have e : ∀ k, 3 ≤ k → k ≤ 22 → w'' k = w k := fun k h1 h2 => (hG.cell (by omega) (by omega)).trans (k2.cell (by omega) (by omega))
    have e24 : w'' 24 = w' 24 := hG.cell (by omega) (by omega)
    have e23 : w'' 23 = w' 23 := hG.cell (by omega) (by omega)
    have ev : vB w'' = vB w' := by unfold vB; rw [e24, e23]
    have hR : RBB w'' ru = RBB w ru := RBB_congr (fun c h1 h2 => e c (by omega) (by omega)) ru
    have hSA : SA w'' = SA w := SA_c5 (fun c h1 h2 => e c h1 (by omega))
    refine ih w'' st' (WkB_lo e hC) (fun v hv => by rw [e24] at hv; rw [e23]; exact k5 v hv) (fun v hv => by rw [e24]; exact k7 v hv) (by rw [hG 1 30 (by decide) (by decide) (by decide) (fun z => absurd z.2 (by decide))]; exact k3) k4 ?_ (by rw [hSA, hR]; exact k9)
    rw [hR, ev, k6]
    exact StQ_congr (fun j _ => ⟨fun v _ => by rw [e24], by rw [hG.cell (c := 25) (by omega) (by omega)]⟩) k11
theorem ItB_begin {w : World} {ru E M n : Nat} {ρ c : Nat → Nat} (hC : WkB w ru M E n ρ c) (hV : VB w) (hby : ByQ w 0) (h30 : w 1 30 = 0) : ItB ru E M (en (oq (SA w) (AM n ρ c) (RBB w ru) ρ c) (fun d => cand (RBB w ru) n d 0) E 0 (vB w) []) w := by
  have h := nextQ_first (Q := QT2) hC (fun _ _ _ _ _ _ _ _ _ => trivial) hV hby h30
  cases hl : en (oq (SA w) (AM n ρ c) (RBB w ru) ρ c) (fun d => cand (RBB w ru) n d 0) E 0 (vB w) [] with
  | nil =>
    rw [hl] at h
    obtain ⟨w', k1, k2, k3, k4⟩ := h
    exact ⟨w', k1, k2, k4⟩
  | cons x xs =>
    rw [hl] at h
    obtain ⟨w', st', k1, k2, k3, k4, k5, k6, k7, k8, k9, -, k11⟩ := h
    refine ⟨w', k1, k2, k5, k6, fun w'' hG => ?_⟩
    have e : ∀ k, 3 ≤ k → k ≤ 22 → w'' k = w k := fun k h1 h2 => (hG.cell (by omega) (by omega)).trans (k2.cell (by omega) (by omega))
    have e24 : w'' 24 = w' 24 := hG.cell (by omega) (by omega)
    have e23 : w'' 23 = w' 23 := hG.cell (by omega) (by omega)
    have ev : vB w'' = vB w' := by unfold vB; rw [e24, e23]
    have hR : RBB w'' ru = RBB w ru := RBB_congr (fun c h1 h2 => e c (by omega) (by omega)) ru
    have hSA : SA w'' = SA w := SA_c5 (fun c h1 h2 => e c h1 (by omega))
    refine ItB_st xs w'' st' (WkB_lo e hC) (fun v hv => by rw [e24] at hv; rw [e23]; exact k5 v hv) (fun v hv => by rw [e24]; exact k7 v hv) (by rw [hG 1 30 (by decide) (by decide) (by decide) (fun z => absurd z.2 (by decide))]; exact k3) k4 ?_ (by rw [hSA, hR]; exact k9)
    rw [hR, ev, k6]
    exact StQ_congr (fun j _ => ⟨fun v _ => by rw [e24], by rw [hG.cell (c := 25) (by omega) (by omega)]⟩) k11
theorem cand_CQ {R : RU} {n E : Nat} {ρ : Nat → Nat} : CQ R n ρ E (fun d => cand R n d 0) := by
  intro d hd
  show (cand R n d 0).Nodup ∧ (R.fm d = 0 → (∀ s, s ∈ cand R n d 0 → s < n) ∧ ∀ s, s < n → (ρ s : Int) = R.sj d → s ∈ cand R n d 0) ∧ (R.fm d ≠ 0 → cand R n d 0 = [0])
  unfold cand
  by_cases f0 : R.fm d = 0
  · rw [if_pos f0]
    refine ⟨List.nodup_range', fun _ => ⟨fun s hs => ?_, fun s hs _ => ?_⟩, fun z => absurd f0 z⟩
    · have := List.mem_range'_1.mp hs
      omega
    · exact List.mem_range'_1.mpr ⟨by omega, by omega⟩
  · rw [if_neg f0, if_pos rfl]
    exact ⟨by simp, fun z => absurd z f0, fun _ => rfl⟩
/-- the walk of a rule in a model, begun in a world that is as before but for the walk -/
theorem walkB_it {w u : World} {ru M n E : Nat} {ρ c : Nat → Nat} (hRu : RuBL w ru) (hSL : SafeL (RBB w ru)) (hB : BMod w M n ρ c) (hn : n ≤ 48) (hVC : VCs w n ρ c) (hE : E ≤ (RBB w ru).ln) (hF : FrQ w u) (hV : VB u) (hby : ByQ u 0) (h30 : u 1 30 = 0) : ItB ru E M (en (oq (SA w) (AM n ρ c) (RBB w ru) ρ c) (fun d => cand (RBB w ru) n d 0) E 0 (vB u) []) u ∧ WkQ (SA w) (RBB w ru) E ∧ SlQ (SA w) n ρ c := by
  obtain ⟨hru, hT, h16, hWf⟩ := hRu
  have hQ := WkQ_le (WkQ_L hT hWf hSL) hE
  have hSl := SlQ_of hB hVC
  have hC0 : WkB w ru M E n ρ c := ⟨hru, hT, hB, hn, hQ, hSl⟩
  have h := ItB_begin (WkB_congr hF hC0) hV hby h30
  rw [hF.R ru, hF.SA] at h
  exact ⟨h, hQ, hSl⟩
/-! BOTH: whether the first literals hold, with the head as it is asked for -/
def Hld (M : MM) (R : RU) (m : Nat → Bool) (cd : Nat → Nat) (E : Nat) : Prop := ∃ σ, VA σ ∧ (∀ j, j < 3 → m j = true → tv σ (R.ht j) = cd j) ∧ ∀ p, p < E → lit M R σ p
theorem Hld.le {M : MM} {R : RU} {m : Nat → Bool} {cd : Nat → Nat} {E E' : Nat} (h : Hld M R m cd E) (hE : E' ≤ E) : Hld M R m cd E' := by
  obtain ⟨σ, h1, h2, h3⟩ := h
  exact ⟨σ, h1, h2, fun p hp => h3 p (by omega)⟩
theorem Hld.same {M M' : MM} {R R' : RU} {m m' : Nat → Bool} {cd cd' : Nat → Nat} {E : Nat} (hM : ∀ r k, M r k ↔ M' r k) (hR : RE R R') (hE : E ≤ R.ln) (hm : ∀ j, j < 3 → m' j = m j ∧ (m j = true → cd' j = cd j)) : Hld M R m cd E ↔ Hld M' R' m' cd' E := by
  have hMM : M = M' := funext fun r => funext fun k => propext (hM r k)
  subst hMM
  refine exists_congr fun σ => and_congr Iff.rfl (and_congr ?_ ?_)
  · refine forall_congr' fun j => forall_congr' fun hj => ?_
    obtain ⟨h1, h2⟩ := hm j hj
    rw [h1]
    refine forall_congr' fun hmj => ?_
    rw [hR.2.2.2 j hj, h2 hmj]
  · refine forall_congr' fun p => forall_congr' fun hp => ?_
    exact (hR.litq (by omega)).symm
theorem vl_K8 {v u : Nat → Int} {t : Int} (ht : -8 ≤ t) (e : K8 v = u) : vl u t = vl v t := by rw [← e, K8_vl ht]
theorem Cons_K8 {σ : Nat → Nat} {v : Nat → Int} (h : Cons σ (K8 v)) : Cons σ v := fun x hx hn => by
  have := h x hx
  unfold K8 at this
  rw [if_pos hx] at this
  exact this hn
/-- something is found if there is an assignment -/
theorem Hld_ex {D : SH} {R : RU} {E n : Nat} {ρ c : Nat → Nat} {m : Nat → Bool} {cd : Nat → Nat} {v0 u : Nat → Int} {C : Nat → List Nat} (hC : WkQ D R E) (hSl : SlQ D n ρ c) (hCQ : CQ R n ρ E C) (hV0 : VV v0) (htm : ∀ c, c < 3 → -8 ≤ R.ht c ∧ R.ht c < 128) (hcd : ∀ c, cd c < 128) (hg : gv R.ht m cd 3 0 nov = some u) (hu : K8 v0 = u) : en (oq D (AM n ρ c) R ρ c) C E 0 v0 [] ≠ [] ↔ Hld (AM n ρ c) R m cd E := by
  obtain ⟨g1, g2, g3, g4⟩ := gv_snd htm hcd 3 0 nov u (by omega) nov_VV hg
  constructor
  · intro hne
    cases hl : en (oq D (AM n ρ c) R ρ c) C E 0 v0 [] with
    | nil => exact absurd hl hne
    | cons x xs =>
      have hx : x ∈ en (oq D (AM n ρ c) R ρ c) C E 0 v0 [] := by rw [hl]; exact List.mem_cons_self
      obtain ⟨b1, b2, b3, b4, b5, b6⟩ := En_HQ hC hSl hCQ E 0 v0 [] x (by omega) (HQ.zero hV0) ((mem_en _ _ _ _ _).mp hx)
      refine ⟨sg x.1, sg_VA b1, fun j hj hm => ?_, fun p hp => (b4 p hp).2⟩
      have h1 := g3 j (by omega) (by omega) hm
      rw [vl_K8 (htm j hj).1 hu] at h1
      rw [tv_sg, vl_ext b2 (by omega), h1, Int.toNat_natCast]
  · rintro ⟨σ, h1, h2, h3⟩ hnil
    obtain ⟨v', hv', hK⟩ := gv_ex htm hcd h2 3 0 nov (by omega) nov_VV nov_cons
    rw [hg] at hv'
    have e : u = v' := Option.some.inj hv'
    rw [← e, ← hu] at hK
    obtain ⟨x, hx, -⟩ := En_ex hC hCQ h1 h3 E 0 v0 [] (by omega) hV0 (fun j c' hj => absurd hj (Nat.not_lt_zero j)) (Cons_K8 hK)
    have := (mem_en _ _ _ _ _).mpr hx
    rw [hnil] at this
    exact absurd this List.not_mem_nil
theorem Hld_no {M : MM} {R : RU} {m : Nat → Bool} {cd : Nat → Nat} {E : Nat} (htm : ∀ c, c < 3 → -8 ≤ R.ht c ∧ R.ht c < 128) (hcd : ∀ c, cd c < 128) (hg : gv R.ht m cd 3 0 nov = none) : ¬ Hld M R m cd E := by
  rintro ⟨σ, h1, h2, h3⟩
  obtain ⟨v', hv', -⟩ := gv_ex htm hcd h2 3 0 nov (by omega) nov_VV nov_cons
  rw [hg] at hv'
  cases hv'
theorem Hld_0 {M : MM} {R : RU} {m : Nat → Bool} {cd : Nat → Nat} {u : Nat → Int} (htm : ∀ c, c < 3 → -8 ≤ R.ht c ∧ R.ht c < 128) (hcd : ∀ c, cd c < 128) (hg : gv R.ht m cd 3 0 nov = some u) : Hld M R m cd 0 := by
  obtain ⟨g1, g2, g3, g4⟩ := gv_snd htm hcd 3 0 nov u (by omega) nov_VV hg
  refine ⟨sg u, sg_VA g1, fun j hj hm => ?_, fun p hp => absurd hp (Nat.not_lt_zero p)⟩
  rw [tv_sg, g3 j (by omega) (by omega) hm, Int.toNat_natCast]
/-- columns that are not asked for may be left out -/
theorem gv_cut {tm : Nat → Int} {m : Nat → Bool} {cd : Nat → Nat} : ∀ (n k c : Nat) (vs : Nat → Int), (∀ j, c + n ≤ j → m j = false) → gv tm m cd (n + k) c vs = gv tm m cd n c vs := by
  intro n
  induction n with
  | zero =>
    intro k
    induction k with
    | zero => intro c vs _; rfl
    | succ k ih =>
      intro c vs h
      have h1 : gv tm m cd (0 + (k + 1)) c vs = gv tm m cd (0 + k) (c + 1) vs := by
        show (if m c = true then (if vl (bd vs (tm c) (cd c : Int)) (tm c) = (cd c : Int) then gv tm m cd (0 + k) (c + 1) (bd vs (tm c) (cd c : Int)) else none) else gv tm m cd (0 + k) (c + 1) vs) = _
        rw [if_neg (by rw [h c (by omega)]; decide)]
      rw [h1, ih (c + 1) vs (fun j hj => h j (by omega))]
      rfl
  | succ n ih =>
    intro k c vs h
    have e : n + 1 + k = (n + k) + 1 := by omega
    rw [e]
    unfold gv
    rw [ih k (c + 1) _ (fun j hj => h j (by omega)), ih k (c + 1) _ (fun j hj => h j (by omega))]
/-- the columns that tell, as a set -/
def tm8 (k : Nat) : Nat := 2 ^ k - 1
theorem tm8_bit {k c : Nat} : (tm8 k).testBit c = decide (c < k) := Nat.testBit_two_pow_sub_one k c
theorem tm8_lt : ∀ k, k ≤ 3 → tm8 k < 8 := by decide
theorem tellingSet_n {w : World} {r : Nat} (hS : WfS w) (hr : r < 10) (hd : 1 ≤ w 3 r) : f_Sc_tellingSet w (r : Int) = some ((tm8 (mny w r) : Nat) : Int) := by
  obtain ⟨s3, s4, s5, s6, s7⟩ := hS r hr
  obtain ⟨s61, s62, s63⟩ := s6 hd
  have hm3 : mny w r ≤ 3 := by unfold mny; split <;> omega
  have e : f_Sc_tellingColumns w (r : Int) = some ((mny w r : Nat) : Int) := by
    unfold f_Sc_tellingColumns mny
    rw [kindOf_n hr, bnd_s]
    by_cases q : w 4 r = 0
    · rw [if_pos q, columnsOf_n hr, bnd_s, if_pos q]
      congr 1
      omega
    · rw [if_neg q, keyOf_n hr, bnd_s, if_neg q]
      have := s63 q
      congr 1
      omega
  have key : ∀ k : Nat, k ≤ 3 → wr (ishl 1 (k : Int) - 1) = ((tm8 k : Nat) : Int) := by decide +kernel
  unfold f_Sc_tellingSet
  rw [e, bnd_s, key _ hm3]
