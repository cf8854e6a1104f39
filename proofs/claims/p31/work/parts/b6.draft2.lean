/-! BOTH: a literal is put behind the draft -/
def Ext1 (R R' : RU) (k s x y z : Int) : Prop := R'.ln = R.ln + 1 ∧ (∀ p, p < R.ln → R'.fm p = R.fm p ∧ R'.sj p = R.sj p ∧ ∀ c, c < 3 → R'.tm p c = R.tm p c) ∧ R'.fm R.ln = k ∧ R'.sj R.ln = s ∧ ∀ j, j < 3 → R'.tm R.ln j = pick x y z j
theorem Ext1.wf {D : SH} {R R' : RU} {k s x y z : Int} (h : Ext1 R R' k s x y z) (hR : WfL D R) (h5 : R.ln < 5) (hk : 0 ≤ k ∧ k ≤ 3) (hs : k ≤ 1 → 1 ≤ D.co s ∧ ∀ j, D.co s ≤ j → j < 3 → pick x y z j = 0) (hz : k = 2 → z = 0) (ht : ∀ j, j < 3 → -8 ≤ pick x y z j ∧ pick x y z j < 128) : WfL D R' := by
  obtain ⟨e1, e2, e3, e4, e5⟩ := h
  obtain ⟨a1, a2, a3, a4, a5⟩ := hR
  refine ⟨by omega, fun p hp => ?_, fun p hp hf => ?_, fun p hp hf => ?_, fun p c hp hc => ?_⟩
  · by_cases q : p < R.ln
    · rw [(e2 p q).1]; exact a2 p q
    · have : p = R.ln := by omega
      rw [this, e3]; exact hk
  · by_cases q : p < R.ln
    · obtain ⟨x1, x2, x3⟩ := e2 p q
      rw [x1] at hf
      have := a3 p q hf
      exact ⟨by rw [x2]; exact this.1, fun c hc hc3 => by rw [x2] at hc; rw [x3 c hc3]; exact this.2 c hc hc3⟩
    · have : p = R.ln := by omega
      rw [this, e3] at hf
      have := hs hf
      rw [show p = R.ln by omega, e4]
      exact ⟨this.1, fun c hc hc3 => by rw [e5 c hc3]; exact this.2 c hc hc3⟩
  · by_cases q : p < R.ln
    · obtain ⟨x1, x2, x3⟩ := e2 p q
      rw [x1] at hf
      rw [x3 2 (by omega)]; exact a4 p q hf
    · have e : p = R.ln := by omega
      rw [e, e3] at hf
      rw [e, e5 2 (by omega)]
      exact hz hf
  · by_cases q : p < R.ln
    · rw [(e2 p q).2.2 c hc]; exact a5 p c q hc
    · have e : p = R.ln := by omega
      rw [e, e5 c hc]; exact ht c hc
theorem Ext1.few {R R' : RU} {k s x y z : Int} (h : Ext1 R R' k s x y z) (hF : cnt (fun p => decide (R.fm p = 0)) R.ln + (if k = 0 then 1 else 0) ≤ 3) : Few R' := by
  obtain ⟨e1, e2, e3, e4, e5⟩ := h
  unfold Few
  rw [e1]
  show cnt (fun p => decide (R'.fm p = 0)) R.ln + (if decide (R'.fm R.ln = 0) = true then 1 else 0) ≤ 3
  rw [cnt_congr (Q := fun p => decide (R.fm p = 0)) (fun i hi => by show decide (R'.fm i = 0) = decide (R.fm i = 0); rw [(e2 i hi).1]), e3]
  by_cases q : k = 0
  · rw [if_pos q] at hF
    rw [if_pos (by simpa using q)]; exact hF
  · rw [if_neg q] at hF
    rw [if_neg (by simpa using q)]; exact hF
theorem Ext1.eqT {R R' S S' : RU} {k s x y z : Int} (h : Ext1 R R' k s x y z) (h' : Ext1 S S' k s x y z) (e : EqT R S) : EqT R' S' := by
  obtain ⟨e1, e2, e3, e4, e5⟩ := h
  obtain ⟨f1, f2, f3, f4, f5⟩ := h'
  refine ⟨by rw [e1, f1, e.1], fun p hp => ?_⟩
  by_cases q : p < R.ln
  · obtain ⟨a, b, c⟩ := e.2 p q
    obtain ⟨a1, b1, c1⟩ := e2 p q
    obtain ⟨a2, b2, c2⟩ := f2 p (by rw [e.1]; exact q)
    exact ⟨by rw [a2, a, a1], by rw [b2, b, b1], fun j hj => by rw [c2 j hj, c j hj, c1 j hj]⟩
  · have ep : p = R.ln := by omega
    subst ep
    rw [← e.1]
    rw [f3, f4]
    have := e.1
    rw [this, e3, e4]
    exact ⟨rfl, rfl, fun j hj => by rw [← this, f5 j hj, this, e5 j hj]⟩
def stT (w : World) (b p : Nat) (x y z : Int) : World := up (up (up w (b + 3) (3 * p) x) (b + 3) (3 * p + 1) y) (b + 3) (3 * p + 2) z
theorem setTerms_n {w : World} {b p : Nat} {x y z : Int} (hp : p < 6) : f_Bo_setTerms w b (p : Int) x y z = some (stT w b p x y z) := by
  have body : ∀ (w : World) (j : Nat), j < 3 → f_Bo_setTerms_3B w b (p : Int) x y z (j : Int) = some (Sum.inl (up w (b + 3) (3 * p + j) (pick x y z j), ((j + 1 : Nat) : Int))) := fun w j hj => by
    unfold f_Bo_setTerms_3B f_Bo_setTerms_48
    rw [if_neg (by omega), bl_s, wr_of (x := (p : Int) * 3) ⟨by omega, by omega⟩, wr_of (x := (p : Int) * 3 + (j : Int)) ⟨by omega, by omega⟩, if_neg (by omega), if_neg (by omega), picked_n hj, bnd_s, gd_t ⟨by omega, by omega⟩, bl_s, bl_s, wr_of (x := (j : Int) + 1) ⟨by omega, by omega⟩, show ((p : Int) * 3 + (j : Int)).toNat = 3 * p + j by omega]
    rfl
  have b0 := body w 0 (by omega)
  have b1 := body (up w (b + 3) (3 * p + 0) (pick x y z 0)) 1 (by omega)
  have b2 := body (up (up w (b + 3) (3 * p + 0) (pick x y z 0)) (b + 3) (3 * p + 1) (pick x y z 1)) 2 (by omega)
  have s0 : f_Bo_setTerms_3B w b (p : Int) x y z 0 = _ := b0
  unfold f_Bo_setTerms f_Bo_setTerms_3
  rw [lp_step (F := fun q : (World × Int) => f_Bo_setTerms_3B q.1 b (p : Int) x y z q.2) (s := (w, (0 : Int))) s0, lp_step (F := fun q : (World × Int) => f_Bo_setTerms_3B q.1 b (p : Int) x y z q.2) b1, lp_step (F := fun q : (World × Int) => f_Bo_setTerms_3B q.1 b (p : Int) x y z q.2) b2]
  refine lp_out ?_
  show f_Bo_setTerms_3B _ b (p : Int) x y z ((2 + 1 : Nat) : Int) = _
  unfold f_Bo_setTerms_3B
  rw [if_pos (by decide)]
  rfl
def psh (w : World) (b n : Nat) (k s x y z : Int) : World := up (stT (up (up w (b + 1) n k) (b + 2) n s) b n x y z) b 0 ((n : Int) + 1)
theorem push_n {w : World} {b n : Nat} {k s x y z : Int} (hn : w b 0 = (n : Int)) (h5 : n < 5) : f_Bo_push w b k s x y z = some (psh w b n k s x y z, (n : Int) + 1) := by
  unfold f_Bo_push f_Bo_push_54
  rw [hn, bl_s, if_neg (by omega), if_neg (by omega), gd_t ⟨by omega, by omega⟩, bl_s, gd_t ⟨by omega, by omega⟩, bl_s, Int.toNat_natCast, setTerms_n (by omega), bnd_s, bl_s]
  have e : stT (up (up w (b + 1) n k) (b + 2) n s) b n x y z b 0 = (n : Int) := by unfold stT; simp [up, hn]
  rw [e, wr_of (x := (n : Int) + 1) ⟨by omega, by omega⟩]
  have e2 : up (stT (up (up w (b + 1) n k) (b + 2) n s) b n x y z) b 0 ((n : Int) + 1) b 0 = (n : Int) + 1 := by simp [up]
  rw [e2]
  rfl
theorem psh_ext {w : World} {b n : Nat} {k s x y z : Int} (hn : w b 0 = (n : Int)) : Ext1 (RB w b) (RB (psh w b n k s x y z) b) k s x y z := by
  have hln : (RB w b).ln = n := by show (w b 0).toNat = n; rw [hn]; omega
  refine ⟨?_, fun p hp => ⟨?_, ?_, fun c hc => ?_⟩, ?_, ?_, fun j hj => ?_⟩
  · rw [hln]
    show (psh w b n k s x y z b 0).toNat = n + 1
    unfold psh
    simp [up]
  · show psh w b n k s x y z (b + 1) p = w (b + 1) p
    unfold psh stT
    have : p ≠ n := by omega
    simp [up, this]
  · show psh w b n k s x y z (b + 2) p = w (b + 2) p
    unfold psh stT
    have : p ≠ n := by omega
    simp [up, this]
  · show psh w b n k s x y z (b + 3) (3 * p + c) = w (b + 3) (3 * p + c)
    have h0 : 3 * p + c ≠ 3 * n := by omega
    have h1 : 3 * p + c ≠ 3 * n + 1 := by omega
    have h2 : 3 * p + c ≠ 3 * n + 2 := by omega
    unfold psh stT
    simp [up, h0, h1, h2]
  · rw [hln]
    show psh w b n k s x y z (b + 1) n = k
    unfold psh stT
    simp [up]
  · rw [hln]
    show psh w b n k s x y z (b + 2) n = s
    unfold psh stT
    simp [up]
  · rw [hln]
    show psh w b n k s x y z (b + 3) (3 * n + j) = _
    have : j = 0 ∨ j = 1 ∨ j = 2 := by omega
    unfold psh stT
    rcases this with rfl | rfl | rfl
    · simp [up, pick]
    · simp [up, pick]
    · simp [up, pick]
def ptB (w : World) (n : Nat) (k s x y z : Int) : World := up (up (up (up (up (up w 17 (90 + n) k) 18 (90 + n) s) 19 (3 * (90 + n)) x) 19 (3 * (90 + n) + 1) y) 19 (3 * (90 + n) + 2) z) 16 18 ((n : Int) + 1)
theorem put_n {w : World} {n : Nat} {k s x y z : Int} (hn : w 16 18 = (n : Int)) (h5 : n < 5) : f_Re_put w k s x y z = some (ptB w n k s x y z, (n : Int) + 1) := by
  have e0 : wr (90 + (n : Int)) = ((90 + n : Nat) : Int) := by rw [wr_of (x := 90 + (n : Int)) ⟨by omega, by omega⟩]; omega
  have e1 : wr (3 * ((90 + n : Nat) : Int)) = ((3 * (90 + n) : Nat) : Int) := by rw [wr_of (x := 3 * ((90 + n : Nat) : Int)) ⟨by omega, by omega⟩]; omega
  have e2 : wr (((3 * (90 + n) : Nat) : Int) + 1) = ((3 * (90 + n) + 1 : Nat) : Int) := by rw [wr_of (x := ((3 * (90 + n) : Nat) : Int) + 1) ⟨by omega, by omega⟩]; omega
  have e3 : wr (((3 * (90 + n) : Nat) : Int) + 2) = ((3 * (90 + n) + 2 : Nat) : Int) := by rw [wr_of (x := ((3 * (90 + n) : Nat) : Int) + 2) ⟨by omega, by omega⟩]; omega
  unfold f_Re_put
  rw [hn, e0, bl_s, gd_t ⟨by omega, by omega⟩, bl_s, gd_t ⟨by omega, by omega⟩, bl_s, e1, gd_t ⟨by omega, by omega⟩, bl_s, e2, gd_t ⟨by omega, by omega⟩, bl_s, e3, gd_t ⟨by omega, by omega⟩, bl_s, bl_s, Int.toNat_natCast, Int.toNat_natCast, Int.toNat_natCast, Int.toNat_natCast]
  have e4 : up (up (up (up (up w 17 (90 + n) k) 18 (90 + n) s) 19 (3 * (90 + n)) x) 19 (3 * (90 + n) + 1) y) 19 (3 * (90 + n) + 2) z 16 18 = (n : Int) := by simp [up, hn]
  rw [e4, wr_of (x := (n : Int) + 1) ⟨by omega, by omega⟩]
  have e5 : ptB w n k s x y z 16 18 = (n : Int) + 1 := by unfold ptB; simp [up]
  show some (ptB w n k s x y z, ptB w n k s x y z 16 18) = _
  rw [e5]
theorem ptB_ext {w : World} {n : Nat} {k s x y z : Int} (hn : w 16 18 = (n : Int)) : Ext1 (RBB w 18) (RBB (ptB w n k s x y z) 18) k s x y z := by
  have hln : (RBB w 18).ln = n := by show (w 16 18).toNat = n; rw [hn]; omega
  refine ⟨?_, fun p hp => ⟨?_, ?_, fun c hc => ?_⟩, ?_, ?_, fun j hj => ?_⟩
  · rw [hln]
    show (ptB w n k s x y z 16 18).toNat = n + 1
    unfold ptB
    simp [up]
  · show ptB w n k s x y z 17 (90 + p) = w 17 (90 + p)
    unfold ptB
    have : p ≠ n := by omega
    simp [up, this]
  · show ptB w n k s x y z 18 (90 + p) = w 18 (90 + p)
    unfold ptB
    have : p ≠ n := by omega
    simp [up, this]
  · show ptB w n k s x y z 19 (3 * (90 + p) + c) = w 19 (3 * (90 + p) + c)
    have h0 : 3 * (90 + p) + c ≠ 3 * (90 + n) := by omega
    have h1 : 3 * (90 + p) + c ≠ 3 * (90 + n) + 1 := by omega
    have h2 : 3 * (90 + p) + c ≠ 3 * (90 + n) + 2 := by omega
    unfold ptB
    simp [up, h0, h1, h2]
  · rw [hln]
    show ptB w n k s x y z 17 (90 + n) = k
    unfold ptB
    simp [up]
  · rw [hln]
    show ptB w n k s x y z 18 (90 + n) = s
    unfold ptB
    simp [up]
  · rw [hln]
    show ptB w n k s x y z 19 (3 * (90 + n) + j) = _
    have : j = 0 ∨ j = 1 ∨ j = 2 := by omega
    unfold ptB
    rcases this with rfl | rfl | rfl
    · simp [up, pick]
    · simp [up, pick]
    · simp [up, pick]
/-- a literal put behind both drafts -/
theorem Inv_push {nF m d now top n : Nat} {L g : Nat → Nat} {wA wB : World} {k s x y z : Int} (hI : Inv nF m d now top L g wA wB) (hn : wA 94 0 = (n : Int)) (h5 : n < 5) (hk : 0 ≤ k ∧ k ≤ 3) (hs : k ≤ 1 → 1 ≤ (SA wA).co s ∧ ∀ j, (SA wA).co s ≤ j → j < 3 → pick x y z j = 0) (hz : k = 2 → z = 0) (ht : ∀ j, j < 3 → -8 ≤ pick x y z j ∧ pick x y z j < 128) (hf : cnt (fun p => decide ((RB wA 94).fm p = 0)) n + (if k = 0 then 1 else 0) ≤ 3) :
    wB 16 18 = (n : Int) ∧ Inv nF m d now top L g (psh wA 94 n k s x y z) (ptB (up wB 1 0 0) n k s x y z) := by
  obtain ⟨e1, e2, e3, e4, e5, e6⟩ := hI.2.2.2.2.1
  have i1 := hI.1
  have hlnA : (RB wA 94).ln = n := by have := e1.1; rw [hn] at this; omega
  have hB18 : wB 16 18 = (n : Int) := by
    rw [e2.2.2.1, e3.1, hlnA]
  have hu : ∀ c, c ≠ 1 → up wB 1 0 0 c = wB c := fun c hc => up10 hc
  have hRu : RBB (up wB 1 0 0) 18 = RBB wB 18 := RBB_congr (fun c a b => hu c (by omega)) 18
  have exA := psh_ext (k := k) (s := s) (x := x) (y := y) (z := z) hn
  have exB := ptB_ext (w := up wB 1 0 0) (k := k) (s := s) (x := x) (y := y) (z := z) (by rw [hu 16 (by decide)]; exact hB18)
  rw [hRu] at exB
  have hSA : SA (psh wA 94 n k s x y z) = SA wA := SA_c5 (fun c a b => by unfold psh stT; funext q; simp [up, show c ≠ 94 by omega, show c ≠ 95 by omega, show c ≠ 96 by omega, show c ≠ 97 by omega])
  have hSB : SA (ptB (up wB 1 0 0) n k s x y z) = SA wB := SA_c5 (fun c a b => by unfold ptB; funext q; simp [up, show c ≠ 1 by omega, show c ≠ 16 by omega, show c ≠ 17 by omega, show c ≠ 18 by omega, show c ≠ 19 by omega])
  have hwf : WfL (SA wA) (RB (psh wA 94 n k s x y z) 94) := exA.wf e1.2 (by omega) hk hs hz ht
  have hEq := exA.eqT exB e3
  refine ⟨hB18, Inv_draft (fun c hc => ?_) (fun c q hcq => ?_) hI ⟨⟨?_, by rw [hSA]; exact hwf⟩, ⟨by omega, ?_, ?_, ?_⟩, hEq, exA.few (by rw [hlnA]; exact hf), ?_, ?_⟩⟩
  · funext q
    unfold psh stT
    simp [up, show c ≠ 94 by omega, show c ≠ 95 by omega, show c ≠ 96 by omega, show c ≠ 97 by omega]
  · unfold ptB up
    rw [if_neg (fun t => hcq (by omega)), if_neg (fun t => hcq (by omega)), if_neg (fun t => hcq (by omega)), if_neg (fun t => hcq (by omega)), if_neg (fun t => hcq (by omega)), if_neg (fun t => hcq (by omega)), if_neg (fun t => hcq (by omega))]
  · rw [exA.1, hlnA]
    unfold psh
    simp [up]
  · exact WfT_congr (fun c a b => by unfold ptB; funext q; simp [up, show c ≠ 1 by omega, show c ≠ 16 by omega, show c ≠ 17 by omega, show c ≠ 18 by omega, show c ≠ 19 by omega]) i1.T
  · rw [exB.1]
    have : (RBB wB 18).ln = n := by show (wB 16 18).toNat = n; rw [hB18]; omega
    rw [this]
    unfold ptB
    simp [up]
  · rw [hSB, i1.SA]
    exact hEq.wf hwf
  · show ptB (up wB 1 0 0) n k s x y z 14 18 = psh wA 94 n k s x y z 94 1
    have a1 : ptB (up wB 1 0 0) n k s x y z 14 18 = wB 14 18 := by unfold ptB; simp [up]
    have a2 : psh wA 94 n k s x y z 94 1 = wA 94 1 := by unfold psh stT; simp [up]
    rw [a1, a2]
    exact e5
  · have a2 : psh wA 94 n k s x y z 94 1 = wA 94 1 := by unfold psh stT; simp [up]
    have a3 : psh wA 94 n k s x y z 3 = wA 3 := by funext q; unfold psh stT; simp [up]
    have hht : ∀ c, (RB (psh wA 94 n k s x y z) 94).ht c = (RB wA 94).ht c := fun c => by
      show psh wA 94 n k s x y z 97 (15 + c) = wA 97 (15 + c)
      have h0 : 15 + c ≠ 3 * n := by omega
      have h1 : 15 + c ≠ 3 * n + 1 := by omega
      have h2 : 15 + c ≠ 3 * n + 2 := by omega
      unfold psh stT
      simp [up, h0, h1, h2]
    have hhb : ∀ c, (RBB (ptB (up wB 1 0 0) n k s x y z) 18).ht c = (RBB wB 18).ht c := fun c => by
      show ptB (up wB 1 0 0) n k s x y z 15 (3 * 18 + c) = wB 15 (3 * 18 + c)
      unfold ptB
      simp [up]
    rw [a2, a3]
    refine e6.imp (fun h => h) (fun h => ⟨?_, fun c hc => ?_⟩)
    · obtain ⟨r, r1, r2, r3, r4⟩ := h.1
      exact ⟨r, r1, r2, r3, fun c h1 h2 => by rw [hht]; exact r4 c h1 h2⟩
    · rw [hht, hhb]
      exact h.2 c hc
/-- a refused call: the reference says which exception -/
theorem ref_no {w : World} {x : Int} (hx : ¬ x = 0) {α : Type} {f : World → Option α} {g : World → Option α} : (bnd (f_Re_refused w x) fun v2 => if v2.2 = 0 then f v2.1 else g v2.1) = g (up w 1 0 x) := by
  rw [refused_n, bnd_s, if_neg hx]
  exact if_neg z10
theorem ref_ok {w : World} {α : Type} {f : World → Option α} {g : World → Option α} : (bnd (f_Re_refused w 0) fun v2 => if v2.2 = 0 then f v2.1 else g v2.1) = f (up w 1 0 0) := by
  rw [refused_n, bnd_s, if_pos rfl]
  exact if_pos rfl
theorem isTerm_n {p : Int} : f_Dm_isTerm p = some (if -8 ≤ p ∧ p ≤ 127 then 1 else 0) := by
  unfold f_Dm_isTerm
  by_cases q1 : p < -8
  · rw [if_pos q1, if_neg (by omega)]
  · rw [if_neg q1]
    by_cases q2 : 127 < p
    · rw [if_pos q2, if_neg (by omega)]
    · rw [if_neg q2, if_pos (by omega)]
theorem isAnyTerm_n {p : Int} : f_Re_isAnyTerm p = some (if -8 ≤ p ∧ p ≤ 127 then 1 else 0) := by
  unfold f_Re_isAnyTerm
  rw [inB_n, bnd_s]
  by_cases q : -8 ≤ p ∧ p ≤ 127
  · rw [if_pos q, gd_t (Or.inr rfl)]
  · rw [if_neg q, gd_t (Or.inl rfl)]
theorem drf_n {nF m d now top : Nat} {L g : Nat → Nat} {wA wB : World} (hI : Inv nF m d now top L g wA wB) : ∃ n : Nat, n ≤ 5 ∧ wA 94 0 = (n : Int) ∧ wB 16 18 = (n : Int) ∧ (RB wA 94).ln = n ∧ (RBB wB 18).ln = n := by
  obtain ⟨e1, e2, e3, e4, e5, e6⟩ := hI.2.2.2.2.1
  exact ⟨(RB wA 94).ln, e1.2.1, e1.1, by rw [e2.2.2.1, e3.1], rfl, e3.1⟩
theorem st_compare : St_compare II := by
  intro wA wB hII x1 x2 x3 _ _ _
  obtain ⟨nF, m, d, now, top, L, g, hI⟩ := hII
  obtain ⟨n, hn5, hnA, hnB, hlA, hlB⟩ := drf_n hI
  have hno : ∀ (e : Nat) (x : Int), ¬ x = 0 → x = hmL 1 2 3 e → (e = 1 ∨ e = 2 ∨ e = 3) → f_Dm_compare wA x1 x2 x3 = some (wA, e, 0) → f_Re_compare wB x1 x2 x3 = f_Re_compare_60 wB x1 x2 x3 x → ∃ (oA : World × Nat × Int) (oB : World × Int), f_Dm_compare wA x1 x2 x3 = some oA ∧ f_Re_compare wB x1 x2 x3 = some oB ∧ f_Re_thrown oB.1 = some (hmL 1 2 3 oA.2.1) ∧ (oA.2.1 = 0 ∨ oA.2.1 = 1 ∨ oA.2.1 = 2 ∨ oA.2.1 = 3) ∧ (oA.2.1 = 0 → oA.2.2 = oB.2) ∧ II oA.1 oB.1 := fun e x hx he h3 h1 h2 => by
    refine ⟨(wA, e, 0), (up wB 1 0 x, 0), h1, ?_, by rw [thrown_n, he], by right; exact h3, fun _ => rfl, nF, m, d, now, top, L, g, Inv_up10 hI⟩
    rw [h2]
    unfold f_Re_compare_60
    exact ref_no (f := fun v => bnd (f_Re_put v 2 x1 x2 x3 0) fun v7 => some (v7.1, v7.2)) (g := fun v => some (v, 0)) hx
  by_cases q1 : 0 ≤ x1 ∧ x1 ≤ 3
  · by_cases q2 : (-8 ≤ x2 ∧ x2 ≤ 127) ∧ (-8 ≤ x3 ∧ x3 ≤ 127)
    · have hB : f_Re_compare wB x1 x2 x3 = if (n : Int) = 5 then f_Re_compare_60 wB x1 x2 x3 3 else f_Re_compare_60 wB x1 x2 x3 0 := by
        unfold f_Re_compare f_Re_compare_19
        rw [isAnyTerm_n, bnd_s, if_pos q2.1, if_neg z10, isAnyTerm_n, bnd_s, if_pos q2.2, if_neg z10, inB_n, bnd_s, if_pos q1, if_neg z10, if_neg z10, hnB]
      have hA : f_Dm_compare wA x1 x2 x3 = if (n : Int) < 5 then (bnd (f_Bo_push wA 94 2 x1 x2 x3 0) fun v19 => some (v19.1, 0, v19.2)) else some (wA, 3, 0) := by
        unfold f_Dm_compare
        rw [if_neg (by omega), if_pos q1.2, isTerm_n, bnd_s, if_pos q2.1, if_neg z10, isTerm_n, bnd_s, if_pos q2.2, if_neg z10, hnA]
      by_cases q3 : n < 5
      · obtain ⟨-, hI'⟩ := Inv_push (k := 2) (s := x1) (x := x2) (y := x3) (z := 0) hI hnA q3 (by omega) (fun h => absurd h (by decide)) (fun _ => rfl) (three.mpr ⟨⟨q2.1.1, by show x2 < 128; omega⟩, ⟨q2.2.1, by show x3 < 128; omega⟩, ⟨by show (-8 : Int) ≤ 0; omega, by show (0 : Int) < 128; omega⟩⟩) (by
          rw [if_neg (by decide), ← hlA]
          have := hI.2.2.2.2.1.2.2.2.1
          exact this)
        refine ⟨(psh wA 94 n 2 x1 x2 x3 0, 0, (n : Int) + 1), (ptB (up wB 1 0 0) n 2 x1 x2 x3 0, (n : Int) + 1), ?_, ?_, ?_, Or.inl rfl, fun _ => rfl, nF, m, d, now, top, L, g, hI'⟩
        · rw [hA, if_pos (by omega), push_n hnA q3, bnd_s]
        · rw [hB, if_neg (by omega)]
          unfold f_Re_compare_60
          rw [ref_ok (f := fun v => bnd (f_Re_put v 2 x1 x2 x3 0) fun v7 => some (v7.1, v7.2)) (g := fun v => some (v, 0)), put_n (by rw [up10 (by decide)]; exact hnB) q3, bnd_s]
        · show some (ptB (up wB 1 0 0) n 2 x1 x2 x3 0 1 0) = _
          have : ptB (up wB 1 0 0) n 2 x1 x2 x3 0 1 0 = 0 := by unfold ptB; simp [up]
          rw [this]
          rfl
      · exact hno 3 3 (by decide) rfl (by omega) (by rw [hA, if_neg (by omega)]) (by rw [hB, if_pos (by omega)])
    · refine hno 2 2 (by decide) rfl (by omega) ?_ ?_
      · unfold f_Dm_compare
        rw [if_neg (by omega), if_pos q1.2, isTerm_n, bnd_s]
        by_cases k1 : -8 ≤ x2 ∧ x2 ≤ 127
        · rw [if_pos k1, if_neg z10, isTerm_n, bnd_s, if_neg (fun z => q2 ⟨k1, z⟩), if_pos rfl]
        · rw [if_neg k1, if_pos rfl]
      · unfold f_Re_compare f_Re_compare_18 f_Re_compare_19
        rw [isAnyTerm_n, bnd_s, inB_n, bnd_s, bnd_s, if_pos q1, if_neg z10, if_pos rfl, if_neg z10, if_neg z10]
        by_cases k1 : -8 ≤ x2 ∧ x2 ≤ 127
        · rw [if_pos k1, if_neg z10, isAnyTerm_n, bnd_s, if_neg (fun z => q2 ⟨k1, z⟩), if_pos rfl]
        · rw [if_neg k1, if_pos rfl]
  · refine hno 1 1 (by decide) rfl (by omega) ?_ ?_
    · unfold f_Dm_compare
      by_cases k1 : x1 < 0
      · rw [if_pos k1]
      · rw [if_neg k1, if_neg (by omega)]
    · unfold f_Re_compare f_Re_compare_18 f_Re_compare_19
      rw [isAnyTerm_n, bnd_s, inB_n, bnd_s, bnd_s, if_neg q1, if_pos rfl, if_pos rfl, isAnyTerm_n, bnd_s]
      by_cases k2 : -8 ≤ x2 ∧ x2 ≤ 127
      · rw [if_pos k2, if_neg z10]
        by_cases k3 : -8 ≤ x3 ∧ x3 ≤ 127
        · rw [if_pos k3]; exact if_neg z10
        · rw [if_neg k3]; exact if_pos rfl
      · rw [if_neg k2]; exact if_pos rfl
