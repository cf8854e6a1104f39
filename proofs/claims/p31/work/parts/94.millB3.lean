/-! THE REFERENCE'S ROUNDS: a rule's walk -/
def QB (D : SH) (lv : Int → Nat) (sl : Nat) (R : RU) (n : Nat) (ρ c : Nat → Nat) : Nat → (Nat → Int) → Prop := fun d v => BdP R v d ∧ hlit D lv (AM n ρ c) sl R (sg v) d
theorem StQ_mono {R : RU} {n n' : Nat} {Q Q' : Nat → (Nat → Int) → Prop} {w w' : World} (hn : n ≤ n') (h24 : w' 24 = w 24) (h25 : w' 25 = w 25) : ∀ {st : List FR2} {cur : Nat → Int}, (∀ d v, d < st.length → Q d v → Q' d v) → StQ R n Q w st cur → StQ R n' Q' w' st cur := by
  intro st
  induction st with
  | nil => intro cur _ h; exact h
  | cons f st ih =>
    intro cur hQ h
    obtain ⟨s, vs⟩ := f
    obtain ⟨⟨h1, h2, h3, h4, h5, h6, h7⟩, h8⟩ := h
    exact ⟨⟨by rw [h24]; exact h1, h2, h3, by rw [h25]; exact h4, hQ _ _ (by simp) h5, fun f0 => Nat.lt_of_lt_of_le (h6 f0) hn, h7⟩, ih (fun d v hd => hQ d v (by simp; omega)) h8⟩
theorem StQ_ext {R : RU} {n : Nat} {Q : Nat → (Nat → Int) → Prop} {w : World} {s : Nat} {vs cur : Nat → Int} {st : List FR2} (h : StQ R n Q w ((s, vs) :: st) cur) : Ext vs cur := by
  obtain ⟨⟨⟨m, -, -, m3⟩, -⟩, -⟩ := h
  exact Bnd_ext m3
theorem StQ_Q {D : SH} {lv : Int → Nat} {sl n N : Nat} {R : RU} {ρ c : Nat → Nat} {w : World} : ∀ (st : List FR2) (cur : Nat → Int), StQ R n (QB D lv sl R N ρ c) w st cur → ∀ d, d < st.length → BdP R cur d ∧ hlit D lv (AM N ρ c) sl R (sg cur) d := by
  intro st
  induction st with
  | nil => intro cur _ d hd; exact absurd hd (by simp)
  | cons f st ih =>
    intro cur h d hd
    obtain ⟨s, vs⟩ := f
    have hx := StQ_ext h
    obtain ⟨⟨h1, h2, h3, h4, h5, h6, h7⟩, h8⟩ := h
    rw [List.length_cons] at hd
    by_cases e : d = st.length
    · rw [e]; exact h5
    · have := ih vs h8 d (by omega)
      exact ⟨this.1.ext hx, (hlit_ext hx this.1).mpr this.2⟩
theorem SlQ_of {w : World} {M n : Nat} {ρ c : Nat → Nat} (hB : BMod w M n ρ c) (hV : VCs w n ρ c) : SlQ (SA w) n ρ c := fun s hs => by
  obtain ⟨a1, a2, a3, a4, a5⟩ := hB.2.2.2.1 s hs
  refine ⟨a4, fun j h1 h2 => hV s hs j ?_ h2⟩
  rw [SA_co a1] at h1
  omega
theorem WkQ_of {w : World} {R : RU} (hT : WfT w) (hWf : WfR (SA w) R) (hSL : SafeL R) : WkQ (SA w) R R.ln := by
  obtain ⟨hw5, hwfm, hwat, hwc, ⟨hwt1, hwt2⟩, hwtm, hwht⟩ := hWf
  refine ⟨hw5, fun p hp => ⟨fun c hc => hwtm p c hp hc, hwfm p hp, fun hf => ?_⟩, fun d hd hf cc hcc h3 hn => hSL d hd hf cc hcc h3 hn⟩
  obtain ⟨hc1, hc0⟩ := hwat p hp hf
  obtain ⟨n, hn, hn10, hn3, hco⟩ := SA_co_in hc1
  have h3 := (hT n hn10).1
  rw [hn] at hc1 hc0 ⊢
  exact ⟨n, rfl, hn10, hc1, by rw [SA_co hn10]; omega, fun c hc hc2 => hc0 c hc2 hc⟩
theorem hdB_cov {R : RU} {vs : Nat → Int} (hH : SafeH R) (hcov : CovQ R R.ln vs) {cc : Nat} (hcc : cc < 3) : 0 ≤ vl vs (R.ht cc) := by
  by_cases hn : R.ht cc < 0
  · obtain ⟨p, c', hp, hc', hf, he⟩ := hH cc hcc hn
    rw [← he]
    exact hcov p c' hp hc' hf
  · rw [vl_nn (by omega)]; omega
theorem tc_clm {σ : Nat → Nat} {f : Nat → Int} (hσ : VA σ) (hf : ∀ c, c < 3 → f c < 128) {j : Nat} (hj : j < 3) : clm (tc σ f) j = tv σ (f j) := by
  have t0 := tv_lt hσ (hf 0 (by omega))
  have t1 := tv_lt hσ (hf 1 (by omega))
  have t2 := tv_lt hσ (hf 2 (by omega))
  have : j = 0 ∨ j = 1 ∨ j = 2 := by omega
  rcases this with rfl | rfl | rfl
  · exact cl0_pk t0 t1 t2
  · exact cl1_pk t0 t1 t2
  · exact cl2_pk t0 t1 t2
theorem headValue_n {w : World} {ru r j : Nat} {vs : Nat → Int} (hru : ru < 19) (htg : (RBB w ru).tg = (r : Int)) (hr : r < 10) (hT : WfT w) (hvs : vB w = vs) (hV : VV vs) (hht : ∀ c, c < 3 → -8 ≤ (RBB w ru).ht c ∧ (RBB w ru).ht c < 128) (hz : ∀ c : Nat, c < 3 → w 3 r ≤ (c : Int) → (RBB w ru).ht c = 0) (hcov : ∀ c, c < 3 → 0 ≤ vl vs ((RBB w ru).ht c)) (hj : j < 3) : f_Re_headValue w (ru : Int) (j : Int) = some ((clm (tc (sg vs) (RBB w ru).ht) j : Nat) : Int) := by
  have h14 : w 14 ru = (r : Int) := htg
  have h15 : w 15 (3 * ru + j) = (RBB w ru).ht j := rfl
  have i1 : wr ((wr (3 * (ru : Int))) + (j : Int)) = ((3 * ru + j : Nat) : Int) := by
    rw [wr_of (x := 3 * (ru : Int)) ⟨by omega, by omega⟩, wr_of (x := 3 * (ru : Int) + (j : Int)) ⟨by omega, by omega⟩]
    omega
  have hc := hcov j hj
  rw [tc_clm (sg_VA hV) (fun c hc => (hht c hc).2) hj, tv_sg]
  unfold f_Re_headValue
  rw [gd_t ⟨by omega, by omega⟩, Int.toNat_natCast, h14, gd_t ⟨by omega, by omega⟩, Int.toNat_natCast]
  by_cases q : w 3 r ≤ (j : Int)
  · rw [if_pos q, hz j hj q]
    rfl
  · rw [if_neg q, i1, gd_t ⟨by omega, by omega⟩, Int.toNat_natCast, h15, valueOf_b (hht j hj) (by rw [hvs]; omega), bnd_s, hvs]
    congr 1
    omega
/-- where a walk stands; what it is still to find; what is left -/
def WsB (D : SH) (R : RU) (Q : Nat → (Nat → Int) → Prop) (E n : Nat) (ρ c : Nat → Nat) (w : World) (l : List ((Nat → Int) × List Nat)) (u : Nat) : Prop :=
  (w 1 30 = 0 ∧ ByQ w 0 ∧ l = en (oq D (AM n ρ c) R ρ c) (fun d => cand R n d 0) E 0 (vB w) [] ∧ u = 49 ^ E) ∨
  ∃ st : List FR2, st.length = E ∧ w 1 30 = 1 ∧ ByQ w E ∧ StQ R n Q w st (vB w) ∧ l = remQ (oq D (AM n ρ c) R ρ c) R n E st ∧ u = dgQ E st
theorem WsB_next {w : World} {ru M E n u : Nat} {ρ c : Nat → Nat} {Q : Nat → (Nat → Int) → Prop} {l : List ((Nat → Int) × List Nat)} (hC : WkB w ru M E n ρ c) (hQ : ∀ d vs s q, d < E → VV vs → CovQ (RBB w ru) d vs → ((RBB w ru).fm d = 0 → s < n) → oq (SA w) (AM n ρ c) (RBB w ru) ρ c d vs s = some q → Q d q.1) (hV : VB w) (h : WsB (SA w) (RBB w ru) Q E n ρ c w l u) : NxQ (RBB w ru) (oq (SA w) (AM n ρ c) (RBB w ru) ρ c) Q E n w u (f_Re_next w (ru : Int) (E : Int) (M : Int)) l := by
  rcases h with ⟨h1, h2, rfl, rfl⟩ | ⟨st, h1, h2, h3, h4, rfl, rfl⟩
  · exact nextQ_first hC hQ hV h2 h1
  · exact nextQ_again hC hQ hV h3 h2 h1 h4
theorem QB_ok {D : SH} {lv : Int → Nat} {sl E n : Nat} {R : RU} {ρ c : Nat → Nat} (hQ : WkQ D R E) (hSl : SlQ D n ρ c) : ∀ d vs s q, d < E → VV vs → CovQ R d vs → (R.fm d = 0 → s < n) → oq D (AM n ρ c) R ρ c d vs s = some q → QB D lv sl R n ρ c d q.1 := fun d vs s q hd hV hcov hs h => by
  have := oq_lit hQ hSl hd hV hcov hs h
  exact ⟨this.1, lit_hlit this.2.1⟩
theorem loop44 {D : SH} {lv : Int → Nat} {FF : MM} {RR : RU → Prop} {sl M r ru : Nat} {R : RU} (hRu : RuL D lv RR sl r R) (hru : ru < 19) (hM : M < 5) : ∀ (N : Nat) (w : World) (n : Nat) (ρ c : Nat → Nat) (x3 : Int) (l : List ((Nat → Int) × List Nat)) (u : Nat),
    SB D lv FF RR sl M w n ρ c → RBB w ru = R → w 16 ru = (R.ln : Int) → (x3 = 0 ∨ x3 = 1) → (n ≤ 48 → WsB D R (QB D lv sl R n ρ c) R.ln n ρ c w l u) → (x3 = 0 → n ≤ 48) → u ≤ N →
    ∃ w' x3' n' ρ' c', f_Re_round_44 w (M : Int) (sl : Int) x3 (ru : Int) = some (Sum.inl (w', x3', ((ru + 1 : Nat) : Int))) ∧ SB D lv FF RR sl M w' n' ρ' c' ∧ EvB D lv sl M w n ρ c w' n' ρ' c' ∧ (x3' = 0 ∨ (x3' = 1 ∧ (x3 = 1 ∨ Ph D ρ c n < Ph D ρ' c' n'))) ∧ (x3' = 0 → x3 = 0 ∧ n' = n ∧ ρ' = ρ ∧ c' = c ∧ n ≤ 48 ∧ ∀ x, x ∈ l → ∃ k, AM n ρ c (r : Int) k ∧ le D (r : Int) (tc (sg x.1) R.ht) k) := by
  intro N
  induction N using Nat.strongRecOn with
  | ind N ih =>
  intro w n ρ c x3 l u hSB hRB h16 h3 hW h30 hu
  obtain ⟨hD, hL, hR, hlv, htg, hr, hSL, hSH, hFew⟩ := id hRu
  obtain ⟨hT, hSA, hB, hVC, hSn, hlvl, hVB⟩ := id hSB
  have hWf := (hL R hR).1
  obtain ⟨hw5, hwfm, hwat, hwc, ⟨hwt1, hwt2⟩, hwtm, hwht⟩ := id hWf
  have h20 : w 20 M = (n : Int) := hB.2.1
  have e125 : ∀ w : World, f_Re_round_125 w (M : Int) (sl : Int) x3 (ru : Int) = some (Sum.inl (w, x3, ((ru + 1 : Nat) : Int))) := fun w => by
    unfold f_Re_round_125
    rw [bl_s, wr_of (x := (ru : Int) + 1) ⟨by omega, by omega⟩]
    rfl
  by_cases hn : n ≤ 48
  · have hWk : WkB w ru M R.ln n ρ c := ⟨hru, hT, hB, hn, by rw [hRB]; exact WkQ_of hT (by rw [hSA]; exact hWf) hSL, SlQ_of hB hVC⟩
    have hnx := WsB_next (Q := QB D lv sl R n ρ c) hWk (by rw [hRB, hSA]; exact QB_ok (by rw [← hSA]; exact WkQ_of hT (by rw [hSA]; exact hWf) hSL) (by rw [← hSA]; exact SlQ_of hB hVC)) hVB (by rw [hRB, hSA]; exact hW hn)
    rw [hRB, hSA] at hnx
    cases l with
    | nil =>
      obtain ⟨w1, e1, hF1, h301, hV1⟩ := hnx
      refine ⟨w1, x3, n, ρ, c, ?_, SB_FrQ hF1 hV1 hSB, EvB.fr hF1.toR, h3.imp (fun h => h) (fun h => ⟨h, Or.inl h⟩), fun h => ⟨h, rfl, rfl, rfl, hn, fun x hx => (by cases hx)⟩⟩
      unfold f_Re_round_44
      refine lp_out ?_
      show f_Re_round_44B w (M : Int) (sl : Int) x3 (ru : Int) = _
      unfold f_Re_round_44B
      rw [gd_t ⟨by omega, by omega⟩, Int.toNat_natCast, h20, if_neg (by omega), gd_t ⟨by omega, by omega⟩, Int.toNat_natCast, h16, e1, bnd_s, if_pos rfl, e125, bnd_s]
    | cons x xs =>
      obtain ⟨w1, st1, e1, hF1, h301, hlen1, hV1, hv1, hby1, hpth, hrem, hdg, hst1⟩ := hnx
      have hSB1 := SB_FrQ hF1 hV1 hSB
      have hRB1 : RBB w1 ru = R := (hF1.R ru).trans hRB
      have hVx : VV x.1 := StQ_VV hst1
      have hcov : CovQ R R.ln x.1 := by have := StQ_cov hst1; rwa [hlen1] at this
      have hhl : ∀ p, p < R.ln → hlit D lv (AM n ρ c) sl R (sg x.1) p := fun p hp => (StQ_Q st1 x.1 hst1 p (by omega)).2
      have e14 : w1 14 ru = (r : Int) := by rw [← htg, ← hRB1]; rfl
      have e3 : w1 3 = w 3 := hF1.cell (by omega) (by omega)
      have hdr : 1 ≤ w1 3 r := by
        have := hwt1
        rw [htg, ← hSA, SA_co hr] at this
        rw [e3]; omega
      have hz : ∀ c0 : Nat, c0 < 3 → w1 3 r ≤ (c0 : Int) → R.ht c0 = 0 := fun c0 h1 h2 => by
        refine hwt2 c0 ?_ h1
        rw [htg, ← hSA, SA_co hr, ← e3]
        omega
      have hm : tc (sg x.1) R.ht < 2097152 := tc_lt (sg_VA hVx) (fun c hc => (hwht c hc).2)
      have hVm : Vc w1 r (tc (sg x.1) R.ht) := fun j h1 h2 => by
        rw [tc_clm (sg_VA hVx) (fun c hc => (hwht c hc).2) h2, hz j h2 h1]
        rfl
      have hhv : ∀ j : Nat, j < 3 → f_Re_headValue w1 (ru : Int) (j : Int) = some ((clm (tc (sg x.1) R.ht) j : Nat) : Int) := fun j hj => by
        have := headValue_n (w := w1) (ru := ru) (r := r) (j := j) (vs := x.1) hru (by rw [hRB1]; exact htg) hr hSB1.1 hv1 hVx (by rw [hRB1]; exact hwht) (by rw [hRB1]; exact hz) (by rw [hRB1]; exact fun c hc => hdB_cov hSH hcov hc) hj
        rw [hRB1] at this
        exact this
      obtain ⟨w2, ch, n2, ρ2, c2, etk, hF2, hSB2, hEv2, hch, hch0, hcv⟩ := takeB_step hSB1 hn hr hlv hdr hm hVm
        (fun M' hO hg hCl => by
          have := head_below hD hL hR (by rw [htg]; exact hlv) hO hg hCl (fun r' k hr' hk => hSn M' hO hg hCl r' k hr' hk) (sg_VA hVx) hhl
          rw [htg] at this
          exact this)
      have hEv : EvB D lv sl M w n ρ c w2 n2 ρ2 c2 := (EvB.fr hF1.toR).trans hEv2
      obtain ⟨x3n, hx3n, hx3e⟩ : ∃ x3n : Int, (x3n = 0 ∨ x3n = 1) ∧ x3n = if ch = 0 then x3 else 1 := ⟨if ch = 0 then x3 else 1, by split; exact h3; exact Or.inr rfl, rfl⟩
      have estep : f_Re_round_44 w (M : Int) (sl : Int) x3 (ru : Int) = f_Re_round_44 w2 (M : Int) (sl : Int) x3n (ru : Int) := by
        unfold f_Re_round_44
        refine lp_step (s := (w, x3)) ?_
        show f_Re_round_44B w (M : Int) (sl : Int) x3 (ru : Int) = _
        unfold f_Re_round_44B f_Re_round_116 f_Re_round_121
        have k0 := hhv 0 (by omega); have k1 := hhv 1 (by omega); have k2 := hhv 2 (by omega)
        have k0 : f_Re_headValue w1 (ru : Int) 0 = _ := k0
        have k1 : f_Re_headValue w1 (ru : Int) 1 = _ := k1
        have k2 : f_Re_headValue w1 (ru : Int) 2 = _ := k2
        rw [gd_t ⟨by omega, by omega⟩, Int.toNat_natCast, h20, if_neg (by omega), gd_t ⟨by omega, by omega⟩, Int.toNat_natCast, h16, e1, bnd_s, if_neg (show ¬ ((w1, (1 : Int)).2 = 0) from (by decide : ¬ (1 : Int) = 0)), gd_t ⟨by omega, by omega⟩]
        show bnd (f_Re_headValue w1 (ru : Int) 0) _ = _
        rw [k0, bnd_s]
        show bnd (f_Re_headValue w1 (ru : Int) 1) _ = _
        rw [k1, bnd_s]
        show bnd (f_Re_headValue w1 (ru : Int) 2) _ = _
        rw [k2, bnd_s]
        show bnd (f_Re_take w1 (M : Int) (w1 14 ru) _ _ _) _ = _
        rw [e14, etk, bnd_s, hx3e]
        by_cases q : x3 = 0
        · rw [if_pos q]
          show (if ch = 0 then _ else _) = _
          by_cases q2 : ch = 0
          · rw [if_pos q2, if_pos q2, q]
          · rw [if_neg q2, if_neg q2]
        · rw [if_neg q]
          have e : x3 = 1 := h3.resolve_left q
          rw [e]
          have : (if ch = 0 then (1 : Int) else 1) = 1 := by split <;> rfl
          rw [this]
      have hgrow : x3n = 1 → x3 = 1 ∨ Ph D ρ c n < Ph D ρ2 c2 n2 := fun h => by
        rw [hx3e] at h
        rcases hch with q | q
        · rw [if_pos q] at h; exact Or.inl h
        · exact Or.inr q.2
      have hunch : x3n = 0 → x3 = 0 ∧ ch = 0 ∧ n2 = n ∧ ρ2 = ρ ∧ c2 = c := fun h => by
        rw [hx3e] at h
        by_cases q : ch = 0
        · rw [if_pos q] at h
          have := hch0 q
          exact ⟨h, q, this⟩
        · rw [if_neg q] at h; cases h
      have f2 : ∀ c0, c0 < 20 ∨ 22 < c0 → w2 c0 = w1 c0 := fun c0 h => hF2.1 c0 (by omega) (by omega) (by omega)
      have hRB2 : RBB w2 ru = R := (RBB_congr (fun c a b => f2 c (by omega)) ru).trans hRB1
      have hv2 : vB w2 = x.1 := by rw [← hv1]; unfold vB; rw [f2 24 (by omega), f2 23 (by omega)]
      have hst2 : StQ R n2 (QB D lv sl R n2 ρ2 c2) w2 st1 (vB w2) := by
        rw [hv2]
        refine StQ_mono hEv2.2.1 (f2 24 (by omega)) (f2 25 (by omega)) (fun d v hd hq => ⟨hq.1, ?_⟩) hst1
        exact hlit_grow (hwfm d (by omega)).1 (by rw [htg]; exact hlv) (fun f1 => ((hL R hR).2 d (by omega)).2 f1) hEv2.2.2.2 (fun q k hk => hEv2.cov hk) hq.2
      have hws2 : WsB D R (QB D lv sl R n2 ρ2 c2) R.ln n2 ρ2 c2 w2 (remQ (oq D (AM n2 ρ2 c2) R ρ2 c2) R n2 R.ln st1) (dgQ R.ln st1) := Or.inr ⟨st1, hlen1, by rw [f2 1 (by omega)]; exact h301, fun v hv => by rw [f2 24 (by omega)]; exact hby1 v hv, hst2, rfl, rfl⟩
      obtain ⟨w', x3', n', ρ', c', er, hSB', hEv', h3', hun'⟩ := ih (dgQ R.ln st1) (by omega) w2 n2 ρ2 c2 x3n _ _ hSB2 hRB2 (by rw [f2 16 (by omega), hF1.cell (by omega) (by omega)]; exact h16) hx3n (fun _ => hws2) (fun e => by have := hunch e; omega) (Nat.le_refl _)
      have hp1 := hEv.Ph hD
      have hp2 := hEv'.Ph hD
      refine ⟨w', x3', n', ρ', c', by rw [estep]; exact er, hSB', hEv.trans hEv', h3'.imp (fun h => h) (fun h => ⟨h.1, ?_⟩), fun h => ?_⟩
      · rcases h.2 with q | q
        · rcases hgrow q with q | q
          · exact Or.inl q
          · exact Or.inr (by omega)
        · exact Or.inr (by omega)
      · obtain ⟨p1, p2, p3, p4, p5, p6⟩ := hun' h
        obtain ⟨q1, q2, q3, q4, q5⟩ := hunch p1
        subst q3 q4 q5
        refine ⟨q1, p2, p3, p4, hn, fun y hy => ?_⟩
        rcases List.mem_cons.mp hy with e | hy
        · rw [e]; exact hcv
        · refine p6 y ?_
          rw [hrem]
          exact hy
  · have h3' : x3 = 1 := by
      rcases h3 with q | q
      · exact absurd (h30 q) hn
      · exact q
    refine ⟨w, x3, n, ρ, c, ?_, hSB, EvB.refl, Or.inr ⟨h3', Or.inl h3'⟩, fun h => by omega⟩
    unfold f_Re_round_44
    refine lp_out ?_
    show f_Re_round_44B w (M : Int) (sl : Int) x3 (ru : Int) = _
    unfold f_Re_round_44B
    rw [gd_t ⟨by omega, by omega⟩, Int.toNat_natCast, h20, if_pos (by omega), e125, bnd_s]
