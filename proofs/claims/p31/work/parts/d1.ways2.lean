/-! BOTH: ways; one rule's assignments are counted alike -/
theorem tc_K8 {v : Nat → Int} {f : Nat → Int} (h : ∀ c, c < 3 → -8 ≤ f c) : tc (sg (K8 v)) f = tc (sg v) f := by
  unfold tc
  rw [tv_sg, tv_sg, tv_sg, tv_sg, tv_sg, tv_sg, K8_vl (h 0 (by omega)), K8_vl (h 1 (by omega)), K8_vl (h 2 (by omega))]
theorem vl_at {u : Nat → Int} {x : Nat} {t : Int} (h : t = -1 - (x : Int)) : vl u t = u x := by
  unfold vl
  rw [if_pos (by omega), show (-1 - t).toNat = x by omega]
/-- values given ahead: the assignments with this head -/
theorem AsQ_gv {M : MM} {R : RU} {m : Nat → Bool} {cd : Nat → Nat} {v0 u w' : Nat → Int} (hH : SafeH R) (htm : ∀ c, c < 3 → -8 ≤ R.ht c ∧ R.ht c < 128) (hcd : ∀ c, cd c < 128) (hg : gv R.ht m cd 3 0 nov = some w') (hv : K8 v0 = w') : AsQ M R R.ln v0 u ↔ AsQ M R R.ln nov u ∧ ∀ j, j < 3 → m j = true → tv (sg u) (R.ht j) = cd j := by
  obtain ⟨g1, g2, g3, g4⟩ := gv_snd htm hcd 3 0 nov w' (by omega) nov_VV hg
  have e8 : ∀ x, x < 8 → w' x = v0 x := fun x hx => by
    rw [← hv]
    unfold K8
    rw [if_pos hx]
  have hm : ∀ x, x < 8 → v0 x ≠ -1 → ∃ j, j < 3 ∧ m j = true ∧ R.ht j = -1 - (x : Int) := fun x hx hn => by
    rcases g4 x with e | e
    · rw [e8 x hx] at e
      exact absurd e hn
    · exact e
  constructor
  · rintro ⟨a1, a2, a3, a4, a5⟩
    refine ⟨⟨a1, a2, fun x _ hn => absurd rfl hn, a4, fun x hx hn => ?_⟩, fun j hj hmj => ?_⟩
    · rcases a5 x hx hn with z | z
      · obtain ⟨j, hj, -, he⟩ := hm x hx z
        obtain ⟨p, c', hp, hc', -, h2⟩ := hH j hj (by omega)
        exact Or.inr ⟨p, c', hp, hc', h2.trans he⟩
      · exact Or.inr z
    · have h1 := g3 j (by omega) (by omega) hmj
      have ht := htm j hj
      have e : vl u (R.ht j) = vl w' (R.ht j) := by
        unfold vl at h1 ⊢
        by_cases hn : R.ht j < 0
        · rw [if_pos hn] at h1 ⊢
          have hx : (-1 - R.ht j).toNat < 8 := by omega
          rw [if_pos hn, a3 _ hx (by rw [← e8 _ hx]; omega), e8 _ hx]
        · rw [if_neg hn, if_neg hn]
      rw [tv_sg, e, h1, Int.toNat_natCast]
  · rintro ⟨⟨a1, a2, -, a4, a5⟩, h⟩
    refine ⟨a1, a2, fun x hx hn => ?_, a4, fun x hx hn => ?_⟩
    · obtain ⟨j, hj, hmj, he⟩ := hm x hx hn
      have h1 := g3 j (by omega) (by omega) hmj
      have h2 := h j hj hmj
      obtain ⟨p, c', hp, hc', -, h3⟩ := hH j hj (by omega)
      have h4 := (a4 p hp).1 c' hc'
      rw [h3] at h4
      rw [vl_at he] at h1 h4
      rw [tv_sg, vl_at he] at h2
      rw [← e8 x hx]
      omega
    · rcases a5 x hx hn with z | z
      · exact absurd rfl z
      · exact Or.inr z
theorem ways_count {D D' : SH} {R R' : RU} {N n r k : Nat} {ρ c ρ' c' : Nat → Nat} {C C' : Nat → List Nat} {w : World} {v0 v0' : Nat → Int} (hR : RE R R') (hM : ∀ r k, AM N ρ c r k ↔ AM n ρ' c' r k) (hT : WfT w) (hD' : D' = SA w) (hr : r < 10) (hd : 1 ≤ w 3 r) (hk : k < 2097152) (hVk : Vc w r k) (hz : ∀ c : Nat, c < 3 → w 3 r ≤ (c : Int) → R'.ht c = 0) (hH : SafeH R) (htm : ∀ c, c < 3 → -8 ≤ R.ht c ∧ R.ht c < 128)
    (hC : WkQ D R R.ln) (hSl : SlQ D N ρ c) (hCQ : CQ R N ρ R.ln C) (hV0 : VV v0) (hu : SuQ N ρ c) (hC' : WkQ D' R' R'.ln) (hSl' : SlQ D' n ρ' c') (hCQ' : CQ R' n ρ' R'.ln C') (hV0' : VV v0') (hu' : SuQ n ρ' c') (hn0 : K8 v0' = nov) (hg : gv R.ht (fun j => (tm8 (mny w r)).testBit j) (clm k) 3 0 nov = some (K8 v0)) :
    (en (oq D (AM N ρ c) R ρ c) C R.ln 0 v0 []).length = ((en (oq D' (AM n ρ' c') R' ρ' c') C' R'.ln 0 v0' []).filter (PkQ D' R' r k)).length := by
  refine len_same (en_uni hC hSl hCQ hV0 hu) ((en_uni hC' hSl' hCQ' hV0' hu').filter _) (fun u => ?_)
  rw [← AsQ_mem hC hSl hCQ hV0, AsQ_gv hH htm (fun c => clm_lt) hg rfl]
  have hs := AsQ_same (u := u) (E := R.ln) (v0 := nov) (v0' := v0') hM (fun p hp => hR.2.1 p hp) (fun x hx => by
    have := congrFun hn0 x
    unfold K8 at this
    rw [if_pos hx] at this
    exact this)
  rw [hs]
  have htm' : ∀ c, c < 3 → -8 ≤ R'.ht c ∧ R'.ht c < 128 := fun c hc => by rw [hR.2.2.2 c hc]; exact htm c hc
  have hm3 : mny w r ≤ 3 := by have := (hT r hr).1; unfold mny; split <;> omega
  have key : ∀ v : Nat → Int, VV v → ((∀ j, j < 3 → (tm8 (mny w r)).testBit j = true → tv (sg v) (R.ht j) = clm k j) ↔ kz (D'.kq (r : Int)) (tc (sg v) R'.ht) = kz (D'.kq (r : Int)) k) := fun v hv => by
    have hm : tc (sg v) R'.ht < 2097152 := tc_lt (sg_VA hv) (fun c hc => (htm' c hc).2)
    rw [hD', ← cols_kz hT hr hd hm hk (tc_Vc (sg_VA hv) htm' hz) hVk]
    constructor
    · intro h j hj
      have := h j (by omega) (by rw [tm8_bit]; exact decide_eq_true hj)
      rw [tc_clm (sg_VA hv) (fun c hc => (htm' c hc).2) (by omega), hR.2.2.2 j (by omega)]
      exact this
    · intro h j hj hb
      rw [tm8_bit] at hb
      have hjm := of_decide_eq_true hb
      have := h j hjm
      rw [tc_clm (sg_VA hv) (fun c hc => (htm' c hc).2) hj, hR.2.2.2 j hj] at this
      exact this
  have ht8 : ∀ c, c < 3 → -8 ≤ R'.ht c := fun c hc => (htm' c hc).1
  rw [hR.1] at hC' hCQ' ⊢
  constructor
  · rintro ⟨h1, h2⟩
    obtain ⟨x, hx, hxu⟩ := (AsQ_mem hC' hSl' hCQ' hV0').mp h1
    refine ⟨x, List.mem_filter.mpr ⟨hx, decide_eq_true ?_⟩, hxu⟩
    rw [← tc_K8 ht8, hxu]
    exact (key u h1.2.1).mp h2
  · rintro ⟨x, hx, hxu⟩
    obtain ⟨hx1, hx2⟩ := List.mem_filter.mp hx
    have h1 := (AsQ_mem hC' hSl' hCQ' hV0').mpr ⟨x, hx1, hxu⟩
    refine ⟨h1, (key u h1.2.1).mpr ?_⟩
    have := of_decide_eq_true hx2
    rw [← tc_K8 ht8, hxu] at this
    exact this
/-- .. and none if the head can't be given -/
theorem ways_none {D' : SH} {R R' : RU} {n r k : Nat} {ρ' c' : Nat → Nat} {C' : Nat → List Nat} {w : World} {v0' : Nat → Int} (hR : RE R R') (hT : WfT w) (hD' : D' = SA w) (hr : r < 10) (hd : 1 ≤ w 3 r) (hk : k < 2097152) (hVk : Vc w r k) (hz : ∀ c : Nat, c < 3 → w 3 r ≤ (c : Int) → R'.ht c = 0) (htm : ∀ c, c < 3 → -8 ≤ R.ht c ∧ R.ht c < 128)
    (hC' : WkQ D' R' R'.ln) (hSl' : SlQ D' n ρ' c') (hCQ' : CQ R' n ρ' R'.ln C') (hV0' : VV v0') (hg : gv R.ht (fun j => (tm8 (mny w r)).testBit j) (clm k) 3 0 nov = none) :
    ((en (oq D' (AM n ρ' c') R' ρ' c') C' R'.ln 0 v0' []).filter (PkQ D' R' r k)).length = 0 := by
  have htm' : ∀ c, c < 3 → -8 ≤ R'.ht c ∧ R'.ht c < 128 := fun c hc => by rw [hR.2.2.2 c hc]; exact htm c hc
  have hm3 : mny w r ≤ 3 := by have := (hT r hr).1; unfold mny; split <;> omega
  rw [List.length_eq_zero_iff, List.filter_eq_nil_iff]
  intro x hx hp
  have hx1 := En_HQ hC' hSl' hCQ' R'.ln 0 v0' [] x (by omega) (HQ.zero hV0') ((mem_en _ _ _ _ _).mp hx)
  have hv := hx1.1
  have h2 := of_decide_eq_true hp
  have hm : tc (sg x.1) R'.ht < 2097152 := tc_lt (sg_VA hv) (fun c hc => (htm' c hc).2)
  rw [hD', ← cols_kz hT hr hd hm hk (tc_Vc (sg_VA hv) htm' hz) hVk] at h2
  refine Hld_no (M := fun _ _ => False) (E := 0) htm (fun c => clm_lt) hg ⟨sg x.1, sg_VA hv, fun j hj hb => ?_, fun p hp => absurd hp (Nat.not_lt_zero p)⟩
  have hb : (tm8 (mny w r)).testBit j = true := hb
  rw [tm8_bit] at hb
  have hjm := of_decide_eq_true hb
  have := h2 j hjm
  rw [tc_clm (sg_VA hv) (fun c hc => (htm' c hc).2) hj, hR.2.2.2 j hj] at this
  exact this
theorem ways_rule {nF mm d now top kk r k N n s x y : Nat} {L g : Nat → Nat} {w u : World} {ρ c ρ' c' : Nat → Nat} {Lc : Nat → List Nat} (hI : Inv nF mm d now top L g w u) (a1 : AMod w (g now) N ρ c Lc) (a2 : VCs w N ρ c) (b1 : BMod u now n ρ' c') (b2 : VCs u n ρ' c') (hn : n ≤ 48) (hs : ∀ r k, AM N ρ c r k ↔ AM n ρ' c' r k) (hkk : kk < mm) (hr : r < 10) (hd : 1 ≤ w 3 r) (hk : k < 2097152) (hVk : Vc u r k) (hsn : s < n) (hρ : ρ' s = r) (hks : kz ((SA u).kq (r : Int)) (c' s) = kz ((SA u).kq (r : Int)) k) (hx : x ≤ 1000000000) (hy : y ≤ 1000000000) :
    ∃ w1 u1 cN, f_Dm_waysByRules_5B w (r : Int) (k : Int) (x : Int) (kk : Int) = some (Sum.inl (w1, ((x + cN : Nat) : Int), ((kk + 1 : Nat) : Int))) ∧ f_Re_ways_145B u (r : Int) (s : Int) (y : Int) (kk : Int) = some (Sum.inl (u1, ((y + cN : Nat) : Int), ((kk + 1 : Nat) : Int))) ∧ QAr w w1 ∧ QBr u u1 ∧ u1 1 0 = u 1 0 ∧ cN < 9999999 := by
  obtain ⟨i1, i2, i3, i4, i5, i6, i7, i8, i9, i10, i11⟩ := id hI
  have hm12 : mm ≤ 12 := i3.1.2.2.1
  have hk12 : kk < 12 := by omega
  obtain ⟨rA1, rA2, -⟩ := i3.1.2.2.2.2 kk hkk
  obtain ⟨⟨rB1, rT, rB3, rB4⟩, -⟩ := i3.2.1.2.2 kk hkk
  obtain ⟨k1, k2, k3, k4, k5, k6⟩ := i3.2.2 kk hkk
  have htg : u 14 kk = w (22 + 4 * kk) 1 := k1.2.2.1
  have nA : w 14 4 = (mm : Int) := i3.1.2.1
  have nB : u 1 14 = (mm : Int) := i3.2.1.1
  have hkd : kdA (22 + 4 * kk) = 1 := kd_rule kk hk12
  have hrl := rule_n (w := w) hk12 (i3.1.2.2.2.1 kk hk12)
  have e74 : ∀ (v : World), f_Dm_waysByRules_74 v (r : Int) (k : Int) (x : Int) (kk : Int) = some (Sum.inl (v, ((x + 0 : Nat) : Int), ((kk + 1 : Nat) : Int))) := fun v => by
    unfold f_Dm_waysByRules_74
    rw [bl_s, wr_of (x := (kk : Int) + 1) ⟨by omega, by omega⟩]
    rfl
  have e247 : ∀ (v : World), f_Re_ways_247 v (r : Int) (s : Int) (y : Int) (kk : Int) = some (Sum.inl (v, ((y + 0 : Nat) : Int), ((kk + 1 : Nat) : Int))) := fun v => by
    unfold f_Re_ways_247
    rw [bl_s, wr_of (x := (kk : Int) + 1) ⟨by omega, by omega⟩]
    rfl
  have bodyA : f_Dm_waysByRules_5B w (r : Int) (k : Int) (x : Int) (kk : Int) = bnd (f_Dm_canGive w (22 + 4 * kk) (r : Int) (k : Int) ((RB w (22 + 4 * kk)).ln : Int)) fun v10 => if v10.2 = 0 then (f_Dm_waysByRules_74 v10.1 (r : Int) (k : Int) (x : Int) (kk : Int)) else (f_Dm_waysByRules_47 v10.1 (r : Int) (k : Int) (x : Int) (kk : Int) 0) := by
    unfold f_Dm_waysByRules_5B
    rw [nA, if_neg (by omega), hrl, bnd_s, gd_t hkd, rA1]
  have bodyB : f_Re_ways_145B u (r : Int) (s : Int) (y : Int) (kk : Int) = f_Re_ways_158 (bgB u) (r : Int) (s : Int) (y : Int) (kk : Int) := by
    unfold f_Re_ways_145B
    rw [nB, if_neg (by omega), beginB_n, bnd_s]
  have hFb := bgB_Q (w := u)
  have hVb := bgB_VB i11
  by_cases act : w (22 + 4 * kk) 2 = 0 ∧ w (22 + 4 * kk) 1 = (r : Int)
  · have htgR : (RBB u kk).tg = (r : Int) := htg.trans act.2
    have hhtA : ∀ c, c < 3 → -8 ≤ (RB w (22 + 4 * kk)).ht c ∧ (RB w (22 + 4 * kk)).ht c < 128 := rA2.2.2.2.2.2.2
    have hhtB : ∀ c, c < 3 → -8 ≤ (RBB u kk).ht c ∧ (RBB u kk).ht c < 128 := fun c hc => by rw [k1.2.2.2 c hc]; exact hhtA c hc
    have hu3 : u 3 r = w 3 r := (i1.2 r hr).1
    have hu4 : u 4 r = w 4 r := (i1.2 r hr).2.1
    have emny : mny u r = mny w r := by unfold mny; rw [hu3, hu4]
    have hdu : 1 ≤ u 3 r := by rw [hu3]; exact hd
    have hz : ∀ c : Nat, c < 3 → u 3 r ≤ (c : Int) → (RBB u kk).ht c = 0 := fun c h1 h2 => by
      have := (rB4.2.2.2.2.1).2 c (by rw [htgR, SA_co hr]; omega) h1
      exact this
    have hSLB := k1.T.safeL.mp k4
    have hg := canGive_n (E := (RB w (22 + 4 * kk)).ln) (k := k) hkd (kd_ref i8 (by omega)) i1.1 (present_n i8 i6.2.2 i6.1) hr hd hk i10 hhtA act.1 act.2
    obtain ⟨jB, hQB, hSlB⟩ := walkB_it (E := (RBB u kk).ln) ⟨rB1, rT, rB3, rB4.L⟩ hSLB b1 hn b2 (Nat.le_refl _) hFb hVb bgB_by (by rw [bgB_1, if_pos rfl])
    have hHB : SafeH (RBB u kk) := fun cc hcc hneg => by
      rw [k1.2.2.2 cc hcc] at hneg ⊢
      obtain ⟨p, c1, hp, hc1, hf, he⟩ := k5 cc hcc hneg
      obtain ⟨q1, -, q3⟩ := k1.2.1 p hp
      exact ⟨p, c1, by rw [k1.1]; exact hp, hc1, by rw [q1]; exact hf, by rw [q3 c1 hc1]; exact he⟩
    have hbd : ∀ z, z ∈ en (oq (SA u) (AM n ρ' c') (RBB u kk) ρ' c') (fun d => cand (RBB u kk) n d 0) (RBB u kk).ln 0 (vB (bgB u)) [] → VV z.1 ∧ ∀ c, c < 3 → 0 ≤ vl z.1 ((RBB u kk).ht c) := fun z hzz => by
      obtain ⟨q1, q2, q3, q4, -⟩ := En_HQ hQB hSlB cand_CQ (RBB u kk).ln 0 (vB (bgB u)) [] z (by omega) (HQ.zero hVb.vv) ((mem_en _ _ _ _ _).mp hzz)
      exact ⟨q1, fun c hc => hdB_cov hHB (fun j c' hj hc' _ => (q4 j hj).1 c' hc') hc⟩
    have hcu := fun (l : Nat) => l
    have goB : ∀ cN : Nat, cN < 9999999 → cN = ((en (oq (SA u) (AM n ρ' c') (RBB u kk) ρ' c') (fun d => cand (RBB u kk) n d 0) (RBB u kk).ln 0 (vB (bgB u)) []).filter (PkQ (SA u) (RBB u kk) r k)).length → (en (oq (SA u) (AM n ρ' c') (RBB u kk) ρ' c') (fun d => cand (RBB u kk) n d 0) (RBB u kk).ln 0 (vB (bgB u)) []).length < 900000000 → ∃ u1, f_Re_ways_145B u (r : Int) (s : Int) (y : Int) (kk : Int) = some (Sum.inl (u1, ((y + cN : Nat) : Int), ((kk + 1 : Nat) : Int))) ∧ FrQ u u1 ∧ VB u1 := fun cN h1 h2 h3 => by
      obtain ⟨u1, p1, p2, p3⟩ := waysB_loop (w := u) (M := now) (E := (RBB u kk).ln) hk12 rT b1 b2 hr hdu htgR i6.2.1 (by rw [k2]; exact act.1) rB3 hhtB hz hsn hρ hks _ (bgB u) y jB hFb hbd (by omega)
      exact ⟨u1, by rw [bodyB, p1, h2], p2, p3⟩
    have hlenB : (en (oq (SA u) (AM n ρ' c') (RBB u kk) ρ' c') (fun d => cand (RBB u kk) n d 0) (RBB u kk).ln 0 (vB (bgB u)) []).length < 900000000 := by
      have h5 : (RBB u kk).ln ≤ 5 := rB4.1
      have hlen := en_len (F := fun _ => true) (O := oq (SA u) (AM n ρ' c') (RBB u kk) ρ' c') (C := fun d => cand (RBB u kk) n d 0) (RBB u kk).ln 0 (vB (bgB u)) [] (fun j _ hj => by
        rw [if_pos rfl]
        show (cand (RBB u kk) n j 0).length ≤ 48
        unfold cand
        split
        · rw [List.length_range']; omega
        · rw [if_pos rfl]; decide)
      have hwg : ∀ E, E ≤ 5 → wg (fun _ => true) E 0 < 900000000 := by decide +kernel
      have := hwg _ h5
      omega
    cases hgg : gv (RB w (22 + 4 * kk)).ht (fun c => (tm8 (mny w r)).testBit c) (clm k) 3 0 nov with
    | none =>
      rw [hgg] at hg
      obtain ⟨v', p1, p2⟩ := hg
      have h0 := ways_none (n := n) (ρ' := ρ') (c' := c') (C' := fun d => cand (RBB u kk) n d 0) (v0' := vB (bgB u)) k1 rT rfl hr hdu hk hVk hz hhtA hQB hSlB cand_CQ hVb.vv (by rw [emny]; exact hgg)
      obtain ⟨u1, t1, t2, t3⟩ := goB 0 (by decide) h0.symm hlenB
      refine ⟨setV (bg w (22 + 4 * kk) (g now) (RB w (22 + 4 * kk)).ln) v', u1, 0, ?_, t1, ⟨fun c hc => bgV_fr c (by omega), by rw [setV_104]; exact p1⟩, (FrQ.toR (M := 4) t2).QB t3, t2 1 0 (by decide) (by decide) (by decide) (fun z => by omega), by decide⟩
      rw [bodyA, p2, bnd_s, if_pos rfl, e74]
    | some v =>
      rw [hgg] at hg
      obtain ⟨v', p1, p2, p3⟩ := hg
      obtain ⟨hIt, hCQ, hQ, hlen⟩ := walkA_it (E := (RB w (22 + 4 * kk)).ln) (v0 := v') hkd (kd_ref i8 (k := now) (by omega)) i1.1 a1 rA2.L k4 k6 (Nat.le_refl _) p1
      have hcnt := ways_count (C' := fun d => cand (RBB u kk) n d 0) (v0' := vB (bgB u)) (k := k) k1 hs rT rfl hr hdu hk hVk hz k5 hhtA hQ (SlQ_A a1 a2) hCQ p1 (SuQ_A a1) hQB hSlB cand_CQ hVb.vv (SuQ_B b1) vB_nov (by rw [emny, p2]; exact hgg)
      obtain ⟨w1, q1, q2, q3⟩ := waysA_loop (x1 := (r : Int)) (x2 := (k : Int)) hk12 _ _ 0 x hIt (by omega) (by omega)
      obtain ⟨u1, t1, t2, t3⟩ := goB _ hlen hcnt hlenB
      refine ⟨w1, u1, _, ?_, t1, ⟨fun c hc => (bgV_fr.trans q2.r3) c (by omega), q3⟩, (FrQ.toR (M := 4) t2).QB t3, t2 1 0 (by decide) (by decide) (by decide) (fun z => by omega), hlen⟩
      rw [bodyA, p3, bnd_s, if_neg z10]
      exact q1
  · refine ⟨w, bgB u, 0, ?_, ?_, QAr.refl i10, (FrQ.toR (M := 4) hFb).QB hVb, hFb 1 0 (by decide) (by decide) (by decide) (fun z => by omega), by decide⟩
    · have hc : f_Dm_canGive w (22 + 4 * kk) (r : Int) (k : Int) ((RB w (22 + 4 * kk)).ln : Int) = some (w, 0) := by
        unfold f_Dm_canGive
        by_cases q : w (22 + 4 * kk) 2 = 0
        · rw [if_pos q, if_neg (fun z => act ⟨q, z⟩)]
        · rw [if_neg q]
      rw [bodyA, hc, bnd_s, if_pos rfl, e74]
    · rw [bodyB]
      unfold f_Re_ways_158
      refine lp_out ?_
      show f_Re_ways_158B (bgB u) (r : Int) (s : Int) (y : Int) (kk : Int) = _
      unfold f_Re_ways_158B
      rw [gd_t ⟨by omega, by omega⟩, Int.toNat_natCast, bgB_fr (show 13 ≠ 1 by decide) (by decide), bgB_fr (show 14 ≠ 1 by decide) (by decide), k2, htg]
      by_cases q : w (22 + 4 * kk) 2 = 0
      · rw [if_pos q, gd_t ⟨by omega, by omega⟩, if_neg (fun z => act ⟨q, z⟩), e247, bnd_s]
      · rw [if_neg q, e247, bnd_s]
