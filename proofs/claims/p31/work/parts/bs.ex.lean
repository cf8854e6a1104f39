/-! BOTH: whether any assignment satisfies literals -/
theorem lit_of_hlit {D : SH} {M : MM} {R : RU} {σ : Nat → Nat} {p : Nat} (h : hlit D (fun _ => 0) M 1 R σ p) : lit M R σ p := by
  unfold hlit at h
  by_cases f0 : R.fm p = 0
  · rw [if_pos f0, if_pos (show (fun _ : Int => 0) (R.sj p) < 1 from Nat.zero_lt_one)] at h
    unfold lit
    rw [if_pos f0]
    exact h
  · rw [if_neg f0] at h
    exact h
theorem walkB_ex {w : World} {ru M n : Nat} {ρ c : Nat → Nat} (hRu : RuBL w ru) (hSL : SafeL (RBB w ru)) (hB : BMod w M n ρ c) (hn : n ≤ 48) (hVC : VCs w n ρ c) (hV : VB w) : ∃ w' v, f_Re_next (bgB w) (ru : Int) ((RBB w ru).ln : Int) (M : Int) = some (w', v) ∧ FrQ w w' ∧ VB w' ∧ ((v = 1 ∧ ∃ σ, Sat (AM n ρ c) (RBB w ru) σ) ∨ (v = 0 ∧ ¬ ∃ σ, Sat (AM n ρ c) (RBB w ru) σ)) := by
  obtain ⟨hru, hT, h16, hWf⟩ := hRu
  have hWQ : WkQ (SA w) (RBB w ru) (RBB w ru).ln := WkQ_L hT hWf hSL
  have hSl : SlQ (SA w) n ρ c := SlQ_of hB hVC
  have hF := bgB_Q (w := w)
  have hVb := bgB_VB hV
  have hC0 : WkB w ru M (RBB w ru).ln n ρ c := ⟨hru, hT, hB, hn, hWQ, hSl⟩
  have hC := WkB_congr hF hC0
  have eR : RBB (bgB w) ru = RBB w ru := hF.R ru
  have eS : SA (bgB w) = SA w := SA_c5 (fun c a b => hF.cell (by omega) (by omega))
  have hN := nextQ_first (Q := QB (SA w) (fun _ => 0) 1 (RBB w ru) n ρ c) hC (fun d vs s q hd hV hcov hs h => by
    rw [eR] at hcov hs h
    rw [eS] at h
    obtain ⟨x1, x2, -⟩ := oq_lit hWQ hSl hd hV hcov hs h
    exact ⟨x1, lit_hlit x2⟩) hVb bgB_by (by rw [bgB_1, if_pos rfl])
  rw [eR, eS] at hN
  cases hl : en (oq (SA w) (AM n ρ c) (RBB w ru) ρ c) (fun d => cand (RBB w ru) n d 0) (RBB w ru).ln 0 (vB (bgB w)) [] with
  | nil =>
    rw [hl] at hN
    obtain ⟨w', e, hF', -, hV'⟩ := hN
    refine ⟨w', 0, e, hF.trans hF', hV', Or.inr ⟨rfl, ?_⟩⟩
    rintro ⟨σ, hσ, hlit⟩
    obtain ⟨X, hX⟩ := slX_ex hlit
    obtain ⟨v', hE, -⟩ := own_pathB hWQ hσ hlit hX (RBB w ru).ln 0 (vB (bgB w)) [] (by omega) hVb.vv (fun j c' hj => absurd hj (by omega)) bgB_cons
    have := (mem_en _ _ _ _ _).mpr hE
    rw [hl] at this
    exact absurd this List.not_mem_nil
  | cons x xs =>
    rw [hl] at hN
    obtain ⟨w', st, e, hF', -, hlen, hV', hx, -, -, -, -, hSt⟩ := hN
    refine ⟨w', 1, e, hF.trans hF', hV', Or.inl ⟨rfl, sg x.1, sg_VA (StQ_VV hSt), fun p hp => ?_⟩⟩
    exact lit_of_hlit (StQ_Q st x.1 hSt p (by rw [hlen]; exact hp)).2
theorem walkA_ex {w : World} {t b N : Nat} {ρ c : Nat → Nat} {Lc : Nat → List Nat} (hkb : kdA b = 1) (hkt : kdA t = 6) (hS : WfS w) (hA : AMod w t N ρ c Lc) (hVC : VCs w N ρ c) (hV : VV (w 104)) (hWf : WfL (SA w) (RB w b)) (hSL : SafeL (RB w b)) (hFew : Few (RB w b)) : ∃ w' v, f_Wa_next (bg w b t (RB w b).ln) = some (w', v) ∧ VV (w' 104) ∧ Fr3 w w' ∧ ((v = 1 ∧ ∃ σ, Sat (AM N ρ c) (RB w b) σ) ∨ (v = 0 ∧ ¬ ∃ σ, Sat (AM N ρ c) (RB w b) σ)) := by
  have hb1 := kd1 hkb
  have h6 := kd6 hkt
  obtain ⟨R, hRB⟩ : ∃ R, R = RB w b := ⟨_, rfl⟩
  rw [← hRB] at hWf hSL hFew ⊢
  obtain ⟨hw5, hwfm, hwat, hwc, hwtm⟩ := id hWf
  obtain ⟨w1, hw1⟩ : ∃ w1, w1 = bg w b t R.ln := ⟨_, rfl⟩
  rw [← hw1]
  have hF : Fr3 w w1 := fun c hc => by rw [hw1]; exact bg_fr (by omega) (by omega)
  have g1 : w1 103 1 = (b : Int) := by rw [hw1]; unfold bg; simp [up, setV]
  have g2 : w1 103 2 = (t : Int) := by rw [hw1]; unfold bg; simp [up, setV]
  have g3 : w1 103 3 = (R.ln : Int) := by rw [hw1]; unfold bg; simp [up, setV]
  have g4 : w1 103 4 = 0 := by rw [hw1]; unfold bg; simp [up, setV]
  have g5 : w1 103 5 = 1 := by rw [hw1]; unfold bg; simp [up, setV]
  have g6 : w1 103 6 = -1 := by rw [hw1]; unfold bg; simp [up, setV]
  have g104 : w1 104 = vk w 8 := by rw [hw1, bg_V]
  have hV1 : VV (w1 104) := by
    rw [g104]
    intro v
    unfold vk
    split
    · omega
    · exact hV v
  have hpl : ∀ d, pl w1 d = d := fun d => by have := pl_cases w1 d; omega
  have hRB1 : RB w1 b = R := (RB_congr (hF b (by omega)) (hF _ (by omega)) (hF _ (by omega)) (hF _ (by omega))).trans hRB.symm
  have e1 : ∀ q, w1 (b + 1) q = R.fm q := fun q => by rw [← hRB1]; rfl
  have e2 : ∀ q, w1 (b + 2) q = R.sj q := fun q => by rw [← hRB1]; rfl
  have e3 : ∀ q cc, w1 (b + 3) (3 * q + cc) = R.tm q cc := fun q cc => by rw [← hRB1]; rfl
  have hC : WkC w1 b t R.ln N ρ c Lc := by
    refine ⟨by rw [g1, Int.toNat_natCast], hkb, by rw [g2, Int.toNat_natCast], hkt, g3, hw5, Or.inl g6, WfS_congr (fun c a b k => by rw [hF c (by omega)]) hS, AMod_congr (fun c a b => hF c (by omega)) (fun c a b => hF c (by omega)) hA, fun q hq => ⟨fun cc hcc => ?_, ?_, fun hf => ?_⟩, fun d hd hf cc hcc hf3 hneg => ?_⟩
    · rw [e3]; exact hwtm q cc hq hcc
    · rw [e1]; exact hwfm q hq
    · rw [e1] at hf
      obtain ⟨hc1, hc0⟩ := hwat q hq hf
      obtain ⟨n, hn, hn10, hn3, hco⟩ := SA_co_in hc1
      refine ⟨n, by rw [e2]; exact hn, hn10, by rw [hF 3 (by omega)]; exact hn3, fun cc hcc hcc2 => ?_⟩
      rw [hF 3 (by omega)] at hcc2
      rw [e3]
      refine hc0 cc ?_ hcc
      rw [hco]
      omega
    · rw [hpl, e1] at hf hf3
      rw [hpl, e3] at hneg
      obtain ⟨j, c', hj, hc', hjf, hje⟩ := hSL d hd hf cc hcc hf3 hneg
      exact ⟨j, c', hj, hc', by rw [hpl, e1]; exact hjf, by rw [hpl, hpl, e3, e3]; exact hje⟩
  have hVC1 : VCs w1 N ρ c := VCs_3 (hF 3 (by omega)) hVC
  have hP3 : cnt (isP w1 b) R.ln ≤ 3 := by
    have : isP w1 b = fun p => decide (R.fm p = 0) := by
      funext q
      unfold isP
      rw [e1]
    rw [this]
    exact hFew
  have hN := next_first (K := 0) (Q := QA (SA w) (fun _ => 0) 1 b R.ln w1 N ρ c) hC (fun d vs s q hd hV hcov hs h => by
    obtain ⟨x1, x2, x3, -⟩ := oc_lit hC hVC1 hd hV hcov hs h
    exact ⟨hd, x1, x2, lit_hlit x3⟩) FrW.refl (by have := hA.2.1; omega) (mvB_5 hw5 (by rw [cnt_isH hw5 (Or.inl g6)]; exact hP3)) g4 g5 hV1
  have fr : ∀ w', FrW w1 w' → Fr3 w w' := fun w' h c0 hc0 => by
    rw [← hF c0 hc0]
    funext k
    exact h c0 k (by omega) (by omega) (by omega) (by omega)
  cases hl : en (oc w1 b t N ρ c) (cnd w1 b Lc) R.ln 0 (w1 104) [] with
  | nil =>
    rw [hl] at hN
    obtain ⟨w', e, hF', hV'⟩ := hN
    refine ⟨w', 0, e, hV', fr w' hF', Or.inr ⟨rfl, ?_⟩⟩
    rintro ⟨σ, hσ, hlit⟩
    obtain ⟨X, hX⟩ := slX_ex hlit
    obtain ⟨v', pa', hE, -⟩ := own_path (P := fun _ _ => True) (X := X) hC hσ (fun d hd => by rw [hRB1, hpl]; exact hlit d hd) (fun d hd f0 => by
      rw [hpl] at f0 ⊢
      rw [e1] at f0
      obtain ⟨y1, y2, y3⟩ := (hX d hd).1 f0
      rw [hRB1, e2]
      refine ⟨y1, y2, y3, ?_⟩
      unfold timely
      rw [if_pos g6]) (fun d hd => ⟨fun _ => trivial, fun _ => trivial⟩) R.ln 0 (w1 104) [] (by omega) hV1 (fun j c' hj => absurd hj (by omega)) (fun v hv h => by rw [g104] at h; unfold vk at h; rw [if_pos hv] at h; exact absurd rfl h) rfl trivial
    have := (mem_en _ _ _ _ _).mpr hE
    rw [hl] at this
    exact absurd this List.not_mem_nil
  | cons x xs =>
    rw [hl] at hN
    obtain ⟨w', st, e, hF', hlen, -, -, hx, -, -, -, hSt⟩ := hN
    refine ⟨w', 1, e, by rw [hx]; exact StO_VV hSt, fr w' hF', Or.inl ⟨rfl, sg x.1, sg_VA (StO_VV hSt), fun p hp => ?_⟩⟩
    have := (StO_Q st x.1 hSt p (by rw [hlen]; exact hp)).2
    rw [hRB1, hpl] at this
    exact lit_of_hlit this
