/-! THE CLASS'S MILL: a rule's walk from its first assignment to its last -/
theorem sw154_over {w : World} {t b i : Nat} {x2 x3 x4 x5 x6 x8 x9 x10 : Int} (hi : i < 10000000) (ho : w t 2 ≠ 0) : f_Mi_sweep_154 w t x2 x3 x4 x5 x6 b x8 x9 x10 (i : Int) = some (Sum.inl (w, x5, wr (x10 + 1))) := by
  unfold f_Mi_sweep_154
  refine lp_out ?_
  show f_Mi_sweep_154B w t x2 x3 x4 x5 x6 b x8 x9 x10 (i : Int) = _
  unfold f_Mi_sweep_154B f_Mi_sweep_217
  rw [if_neg (by omega), if_neg ho, bl_s, bnd_s]
/-- what a rule's walk needs of the rule -/
def RuOk (D : SH) (lv : Int → Nat) (RR : RU → Prop) (sl E r b : Nat) (R : RU) (w : World) : Prop :=
  WfD D ∧ Lev D lv RR ∧ RR R ∧ lv (r : Int) = sl ∧ R.tg = (r : Int) ∧ r < 10 ∧ R.ln = E ∧ RB w b = R ∧ HdS w b E ∧ 1 ≤ w 3 r ∧ cnt (isP w b) E ≤ 3
theorem RuOk_congr {D : SH} {lv : Int → Nat} {RR : RU → Prop} {sl E r b : Nat} {R : RU} {w w' : World} (h3 : w' 3 = w 3) (e0 : w' b = w b) (e1 : w' (b + 1) = w (b + 1)) (e2 : w' (b + 2) = w (b + 2)) (e3 : w' (b + 3) = w (b + 3)) (h : RuOk D lv RR sl E r b R w) : RuOk D lv RR sl E r b R w' := by
  obtain ⟨a1, a2, a3, a4, a5, a6, a7, a8, a9, a10, a11⟩ := h
  refine ⟨a1, a2, a3, a4, a5, a6, a7, (RB_congr e0 e1 e2 e3).trans a8, ?_, by rw [h3]; exact a10, ?_⟩
  · unfold HdS
    rw [e1, e3]
    exact a9
  · have : isP w' b = isP w b := by
      funext p
      unfold isP
      rw [e1]
    rw [this]
    exact a11
theorem loop154 {D : SH} {lv : Int → Nat} {FF : MM} {RR : RU → Prop} {sl t b E r : Nat} {R : RU} {rd x2 x4 x6 x8 x9 x10 : Int} : ∀ (n : Nat) (w : World) (N : Nat) (ρ c : Nat → Nat) (L : Nat → List Nat) (x5 : Int) (i : Nat) (l : List ((Nat → Int) × List Nat)) (u : Nat),
    WkC w b t E N ρ c L → RuOk D lv RR sl E r b R w → SI D lv FF RR sl t w N ρ c L → w t 2 = 0 → (x5 = 0 ∨ x5 = 1) → WSt w b t E N ρ c L (QA D lv sl b E w N ρ c) l u → u ≤ n → i + n < 9999999 →
    ∃ w' x5' N' ρ' c' L', f_Mi_sweep_154 w t x2 rd x4 x5 x6 b x8 x9 x10 (i : Int) = some (Sum.inl (w', x5', wr (x10 + 1))) ∧ SI D lv FF RR sl t w' N' ρ' c' L' ∧ Evo D lv sl t rd w N ρ c w' N' ρ' c' ∧ (x5' = 0 ∨ (x5' = 1 ∧ (x5 = 1 ∨ Ph D ρ c N < Ph D ρ' c' N'))) ∧ (x5' = 0 → x5 = 0 ∧ N' = N ∧ ρ' = ρ ∧ c' = c ∧ L' = L ∧ w' (t + 4) = w (t + 4)) ∧
      (w' t 2 = 0 → ∀ x, x ∈ l → AllP (fun d s => w (b + 1) (pl w d) = 0 → w' (t + 4) s ≠ rd) x.2 → ∃ k, AM N' ρ' c' (r : Int) k ∧ le D r (tc (sg x.1) R.ht) k) ∧ (w' t 2 ≠ 0 → w' t 2 = 1 ∧ OvB D lv FF RR sl (AM N' ρ' c')) := by
  intro n
  induction n using Nat.strongRecOn with
  | ind n ih =>
  intro w N ρ c L x5 i l u hC hRu hSI ho h5 hW hu hi
  obtain ⟨hD, hL, hR, hlv, htg, hr, hln, hRB, hH, hdr, h3⟩ := hRu
  obtain ⟨hS, hSA, hA, hVC, hVV, hSn, hlvl⟩ := id hSI
  have hkb := hC.2.1
  have hkt := hC.2.2.2.1
  have hb1 := kd1 hkb
  have h6 := kd6 hkt
  have hE5 := hC.2.2.2.2.2.1
  have hle := hC.2.2.2.2.2.2.1
  have hnx := WS_next hC (QA_ok (D := D) (lv := lv) (sl := sl) hC hVC) h3 hW
  cases l with
  | nil =>
    obtain ⟨w1, e1, hF1, hV1⟩ := hnx
    refine ⟨w1, x5, N, ρ, c, L, ?_, SI_FrW hF1 hkt hV1 hSI, Evo_FrW hF1 hkt, h5.imp (fun h => h) (fun h => ⟨h, Or.inl h⟩), fun h => ⟨h, rfl, rfl, rfl, rfl, hF1.cell (by omega)⟩, fun _ x hx => (by cases hx), fun h => ?_⟩
    · unfold f_Mi_sweep_154
      refine lp_out ?_
      show f_Mi_sweep_154B w t x2 rd x4 x5 x6 b x8 x9 x10 (i : Int) = _
      unfold f_Mi_sweep_154B f_Mi_sweep_217
      rw [if_neg (by omega), if_pos ho, e1, bnd_s, if_pos rfl, bl_s, bnd_s]
    · rw [hF1.cell (by omega)] at h
      exact absurd ho h
  | cons x xs =>
    obtain ⟨w1, st1, e1, hF1, hlen1, h14, h15, h104, hpth, hrem, hdg, hst1⟩ := hnx
    have hC1 := WkC_congr hF1 hC
    have hV1 : VV x.1 := StO_VV hst1
    have hcov1 : Cov w b E x.1 := by have := StO_cov hst1; rwa [hlen1] at this
    have hSI1 := SI_FrW hF1 hkt (by rw [h104]; exact hV1) hSI
    have eb0 : w1 b = w b := hF1.cell (by omega)
    have eb1 : w1 (b + 1) = w (b + 1) := hF1.cell (by omega)
    have eb2 : w1 (b + 2) = w (b + 2) := hF1.cell (by omega)
    have eb3 : w1 (b + 3) = w (b + 3) := hF1.cell (by omega)
    have hWf := (hL R hR).1
    obtain ⟨hw5, hwfm, hwat, hwc, ⟨hwt1, hwt2⟩, hwtm, hwht⟩ := hWf
    have hht : ∀ cc, cc < 3 → w (b + 3) (15 + cc) = R.ht cc := fun cc _ => by rw [← hRB]; rfl
    have hhr : ∀ cc, cc < 3 → -8 ≤ w (b + 3) (3 * 5 + cc) ∧ w (b + 3) (3 * 5 + cc) < 128 := fun cc hcc => by
      have := hwht cc hcc
      have e := hht cc hcc
      have e2 : 3 * 5 + cc = 15 + cc := by omega
      rw [e2, e]
      exact this
    have hb1' : w b 1 = (r : Int) := by rw [← htg, ← hRB]; rfl
    have htup := tuple_n (w := w1) (b := b) (p := 5) hC1.1 hkb (by omega) (by rw [eb3]; exact hhr) (by rw [h104]; exact hV1)
    have htn : tn w1 b 5 (w1 104) = tc (sg x.1) R.ht := by
      rw [tn_head, h104, RB_FrW hF1 hkb, hRB]
    rw [htn] at htup
    have hmlt : tc (sg x.1) R.ht < 2097152 := tc_lt (sg_VA hV1) (fun cc hcc => (hwht cc hcc).2)
    have hVm : Vc w1 r (tc (sg x.1) R.ht) := by
      intro j hj1 hj3
      rw [hF1.cell (show 3 < 103 ∨ 106 < 3 by omega)] at hj1
      have hco : D.co R.tg = (w 3 r).toNat := by rw [htg, ← hSA, SA_co hr]
      have hz := hwt2 j (by rw [hco]; omega) hj3
      have t0 := tv_lt (sg_VA hV1) (hwht 0 (by omega)).2
      have t1 := tv_lt (sg_VA hV1) (hwht 1 (by omega)).2
      have t2 := tv_lt (sg_VA hV1) (hwht 2 (by omega)).2
      have hz0 : tv (sg x.1) (R.ht j) = 0 := by rw [hz]; rfl
      have : j = 0 ∨ j = 1 ∨ j = 2 := by omega
      rcases this with rfl | rfl | rfl
      · exact (cl0_pk t0 t1 t2).trans hz0
      · exact (cl1_pk t0 t1 t2).trans hz0
      · exact (cl2_pk t0 t1 t2).trans hz0
    have hhl : ∀ p, p < R.ln → hlit D lv (AM N ρ c) sl R (sg x.1) p := fun p hp => by
      obtain ⟨d, hd, e⟩ := pl_onto (w := w) hle (show p < E by omega)
      have := (StO_Q st1 x.1 hst1 d (by omega)).2
      rw [e, hRB] at this
      exact this
    obtain ⟨w2, ch, N2, ρ2, c2, L2, nn, etk, hF2, hSI2, hEv2, hIns, hIns2, hoth, hch, hch0, hcv, hov0, -⟩ := take_step (rd := rd) hSI1 hkt hr hlv (by rw [hF1.cell (show 3 < 103 ∨ 106 < 3 by omega)]; exact hdr) hmlt hVm
      (fun M' hO hg hCl => by
        have := head_below hD hL hR (by rw [htg]; exact hlv) hO hg hCl (fun r' k hr' hk => hSn M' hO hg hCl r' k hr' hk) (sg_VA hV1) hhl
        rw [htg] at this
        exact this)
    have hov := hov0 (by rw [hF1.cell (by omega)]; exact ho)
    have hEv : Evo D lv sl t rd w N ρ c w2 N2 ρ2 c2 := (Evo_FrW hF1 hkt).trans hEv2
    -- the iteration
    obtain ⟨x5n, hx5n, hx5e⟩ : ∃ x5n : Int, (x5n = 0 ∨ x5n = 1) ∧ x5n = if ch = 0 then x5 else 1 := ⟨if ch = 0 then x5 else 1, by split; exact h5; exact Or.inr rfl, rfl⟩
    have estep : f_Mi_sweep_154 w t x2 rd x4 x5 x6 b x8 x9 x10 (i : Int) = f_Mi_sweep_154 w2 t x2 rd x4 x5n x6 b x8 x9 x10 ((i + 1 : Nat) : Int) := by
      unfold f_Mi_sweep_154
      refine lp_step (s := (w, x5, (i : Int))) ?_
      show f_Mi_sweep_154B w t x2 rd x4 x5 x6 b x8 x9 x10 (i : Int) = _
      unfold f_Mi_sweep_154B f_Mi_sweep_204 f_Mi_sweep_209
      rw [if_neg (by omega), if_pos ho, e1, bnd_s, if_neg (show ¬ ((w1, (1 : Int)).2 = 0) from (by decide : ¬ (1 : Int) = 0))]
      show bnd (f_Wa_tuple w1 5) _ = _
      have htup : f_Wa_tuple w1 5 = some ((tc (sg x.1) R.ht : Nat) : Int) := htup
      have etk' : f_Mo_take w1 t (w1 b 1) ((tc (sg x.1) R.ht : Nat) : Int) rd = some (w2, ch) := by rw [eb0, hb1']; exact etk
      rw [htup, bnd_s]
      show bnd (f_Mo_take w1 t (w1 b 1) ((tc (sg x.1) R.ht : Nat) : Int) rd) _ = _
      rw [etk', bnd_s, bl_s, bl_s, wr_of (x := (i : Int) + 1) ⟨by omega, by omega⟩, hx5e]
      have ei : ((i + 1 : Nat) : Int) = (i : Int) + 1 := by omega
      rw [ei]
      show (if ch = 0 then _ else _) = _
      by_cases hc0 : ch = 0
      · rw [if_pos hc0, if_pos hc0]
        rcases h5 with e | e
        · rw [if_pos e, e]
        · rw [if_neg (by omega), e]
      · rw [if_neg hc0, if_neg hc0]
    have hgrow : x5n = 1 → x5 = 1 ∨ Ph D ρ c N < Ph D ρ2 c2 N2 := fun h => by
      rw [hx5e] at h
      rcases hch with q | q
      · rw [if_pos q] at h; exact Or.inl h
      · exact Or.inr q.2
    have hunch : x5n = 0 → x5 = 0 ∧ N2 = N ∧ ρ2 = ρ ∧ c2 = c ∧ L2 = L ∧ w2 (t + 4) = w (t + 4) := fun h => by
      rw [hx5e] at h
      by_cases hc0 : ch = 0
      · rw [if_pos hc0] at h
        have := hch0 hc0
        exact ⟨h, this.1, this.2.1, this.2.2.1, this.2.2.2.1, this.2.2.2.2.trans (hF1.cell (by omega))⟩
      · rw [if_neg hc0] at h; cases h
    rw [estep]
    by_cases ho2 : w2 t 2 = 0
    · have hCw2 := WkC_FrM hC1 hF2 hSI2.2.2.1
      have hW12 := hF2.wal hkb hkt (b := b)
      have hWpl : ∀ d, pl w2 d = pl w d := fun d => (Wal_pl hW12).trans (pl_congr hF1)
      have eb1' : w2 (b + 1) = w (b + 1) := hW12.2.2.2.2.1.trans eb1
      have eb2' : w2 (b + 2) = w (b + 2) := hW12.2.2.2.2.2.1.trans eb2
      have eb3' : w2 (b + 3) = w (b + 3) := hW12.2.2.2.2.2.2.trans eb3
      have eb0' : w2 b = w b := (funext (hF2 b (by omega))).trans eb0
      have e3' : w2 3 = w 3 := (funext (hF2 3 (by omega))).trans (hF1.cell (by omega))
      have hRB2 : RB w2 b = R := (RB_congr eb0' eb1' eb2' eb3').trans hRB
      -- the stack
      have hst1' : StO w1 b L (QA D lv sl b E w N ρ c) w1 st1 x.1 := StO_base hF1 hkb (fun _ _ _ _ h => h) st1 x.1 hst1
      obtain ⟨st2, hFs, hst2⟩ := StO_take (Q' := QA D lv sl b E w2 N2 ρ2 c2) (w' := w2) hW12 (hW12.2.2.1) (hW12.2.2.2.1) hEv2.2.1 hIns hIns2 (fun d vs s cur hq => by
        obtain ⟨q1, q2, q3, q4⟩ := hq
        refine ⟨q1, q2, by rw [hRB2, hWpl]; rw [hRB] at q3; exact q3, ?_⟩
        rw [hRB2, hWpl]
        rw [hRB] at q4
        have hp := pl_lt (w := w) q1 hle
        exact hlit_grow (hwfm _ (by omega)).1 (by rw [htg]; exact hlv) (fun f1 => ((hL R hR).2 _ (by omega)).2 f1) hEv2.2.2.2.1 (fun q k hk => hEv2.cov hk) q4) st1 x.1 hst1'
      have hfs := hFs.len
      have hocw : oc w1 b t N ρ c = oc w b t N ρ c := by funext d vs s; exact oc_congr hF1 hkb hkt
      have hcnw : cnd w1 b L = cnd w b L := by funext d; exact cnd_congr hF1 hkb
      have hisw : isH w2 b = isH w b := by
        rw [Wal_isH hW12]
        funext d
        unfold isH
        rw [eb1, pl_congr hF1]
      have hdg2 : dg (isH w2 b) E (48 - N2) st2 < u := by
        rw [hisw]
        exact Nat.lt_of_le_of_lt (Fs_dg hSI2.2.2.1.2.1 hFs) hdg
      have hws2 : WSt w2 b t E N2 ρ2 c2 L2 (QA D lv sl b E w2 N2 ρ2 c2) (rem (oc w2 b t N2 ρ2 c2) (cnd w2 b L2) E st2) (dg (isH w2 b) E (48 - N2) st2) := by
        refine Or.inr ⟨st2, by omega, ?_, fun h => ?_, ?_, rfl, rfl⟩
        · rw [hW12.1]; exact h14
        · rw [hW12.1]; exact h15 h
        · rw [hW12.2.1, h104]; exact hst2
      obtain ⟨w', x5', N', ρ', c', L', er, hSI', hEv', h5', hun', hcp', hov'⟩ := ih (dg (isH w2 b) E (48 - N2) st2) (by omega) w2 N2 ρ2 c2 L2 x5n (i + 1) _ _ hCw2 (RuOk_congr e3' eb0' eb1' eb2' eb3' ⟨hD, hL, hR, hlv, htg, hr, hln, hRB, hH, hdr, h3⟩) hSI2 ho2 hx5n hws2 (Nat.le_refl _) (by omega)
      have hph1 := hEv.Ph hD
      have hph2 := hEv'.Ph hD
      refine ⟨w', x5', N', ρ', c', L', er, hSI', hEv.trans hEv', h5'.imp (fun h => h) (fun h => ⟨h.1, ?_⟩), fun h => ?_, fun hf y hy hP => ?_, hov'⟩
      · rcases h.2 with q | q
        · rcases hgrow q with q | q
          · exact Or.inl q
          · exact Or.inr (by omega)
        · exact Or.inr (by omega)
      · have p1 := hun' h
        have p2 := hunch p1.1
        exact ⟨p2.1, p1.2.1.trans p2.2.1, p1.2.2.1.trans p2.2.2.1, p1.2.2.2.1.trans p2.2.2.2.1, p1.2.2.2.2.1.trans p2.2.2.2.2.1, p1.2.2.2.2.2.trans p2.2.2.2.2.2⟩
      · rcases List.mem_cons.mp hy with e | hy
        · obtain ⟨k, hk, hkle⟩ := hcv ho2
          obtain ⟨k', hk', hkle'⟩ := hEv'.cov hk
          rw [e]
          exact ⟨k', hk', le_trans' hkle hkle'⟩
        · refine hcp' hf y ?_ ?_
          · rw [← hrem, ← hocw, ← hcnw] at hy
            refine rem_take (P := fun d s => w (b + 1) (pl w d) = 0 → w' (t + 4) s ≠ rd) (fun d vs s hd hs hPs => ?_) (fun d s hd hs => ?_) hP st1 st2 x.1 (by omega) hst1' hFs hy
            · refine oc_take hkb hkt hF2 (fun f0 => ?_) (fun f1 k => ?_)
              · rw [eb1, pl_congr hF1] at f0
                have hs1 : s < N := by
                  unfold cnd at hs
                  rw [eb1, eb2, pl_congr hF1, if_pos f0] at hs
                  obtain ⟨r', hr', hr10', -⟩ := (hC.2.2.2.2.2.2.2.2.2.1 (pl w d) (pl_lt hd hle)).2.2 (by omega)
                  rw [hr', Int.toNat_natCast] at hs
                  exact ((hA.2.2.2.1 r' s hr10').mp hs).1
                have hne := hPs f0
                have h2 : w2 (t + 4) s ≠ rd := fun e => by
                  rcases hEv'.2.2.2.2.1 s with q | q
                  · exact hne q
                  · exact hne (q.1.trans e)
                rcases hEv2.2.2.2.2.1 s with q | q
                · exact absurd q h2
                · refine ⟨?_, q.1⟩
                  have ha := hSI2.2.2.1.2.2.2.2.1 s (by have := hEv2.2.1; omega)
                  have hb := hSI1.2.2.1.2.2.2.2.1 s hs1
                  rw [ha.2.1, hb.2.1, q.2 hs1]
              · rw [eb1, pl_congr hF1] at f1
                rw [eb2, pl_congr hF1]
                refine hoth _ k (fun e => ?_)
                have hp := pl_lt (w := w) hd hle
                have hfm1 : R.fm (pl w d) = 1 := by rw [← hRB]; exact f1
                have hsj1 : R.sj (pl w d) = (r : Int) := by rw [← hRB]; exact e
                have := ((hL R hR).2 (pl w d) (by omega)).2 hfm1
                rw [hsj1, htg] at this
                omega
            · unfold cnd at hs ⊢
              rw [Wal_pl hW12, hW12.2.2.2.2.1, hW12.2.2.2.2.2.1]
              by_cases f0 : w1 (b + 1) (pl w1 d) = 0
              · rw [if_pos f0] at hs ⊢
                exact (hIns _).mem hs
              · rw [if_neg f0] at hs ⊢
                exact hs
          · have e : (fun d s => w2 (b + 1) (pl w2 d) = 0 → w' (t + 4) s ≠ rd) = (fun d s => w (b + 1) (pl w d) = 0 → w' (t + 4) s ≠ rd) := by
              funext d s
              rw [eb1', hWpl]
            rw [e]
            exact hP
    · refine ⟨w2, x5n, N2, ρ2, c2, L2, sw154_over (by omega) ho2, hSI2, hEv, hx5n.imp (fun h => h) (fun h => ⟨h, hgrow h⟩), hunch, fun h => absurd h ho2, hov⟩
