/-! BOTH: pass -/
theorem IHou_now {nF m now now' h : Nat} {L g : Nat → Nat} {wA wB : World} (h0 : wA 150 0 = 0) (hI : IHou nF m L g wA wB now h) : IHou nF m L g wA wB now' h := by
  obtain ⟨N, ρ, c, Lc, n, ρ', c', a1, a2, a3, a4, a5, a6, a7, a8, a9⟩ := hI
  exact ⟨N, ρ, c, Lc, n, ρ', c', a1, a2, a3, a4, a5, a6, a7, a8, fun _ hk => absurd h0 hk⟩
theorem Inv_pass {nF m d now now' top : Nat} {L g : Nat → Nat} {wA wB wA' wB' : World} (hA : ∀ c, c ≠ 1 → c ≠ 150 → wA' c = wA c) (h150 : wA' 150 0 = 0) (hA12 : wA' 1 12 = (now' : Int)) (hB : ∀ c, c ≠ 1 → wB' c = wB c) (hf : ∀ k, 2 ≤ k → wB' 1 k = wB 1 k) (hB1 : wB' 1 1 = (now' : Int)) (hn : now' < 4) (hI : Inv nF m d now top L g wA wB) : Inv nF m d now' top L g wA' wB' := by
  obtain ⟨i1, i2, i3, i4, i5, i6, i7, i8, i9, i10, i11⟩ := hI
  have hm : m ≤ 12 := i3.1.2.2.1
  have hA' : ∀ c, 2 ≤ c → c < 150 → wA' c = wA c := fun c h1 h2 => hA c (by omega) (by omega)
  have hB' : ∀ c, 2 ≤ c → wB' c = wB c := fun c h1 => hB c (by omega)
  have hSA : SA wA' = SA wA := SA_c5 (fun c _ _ => hA' c (by omega) (by omega))
  have hSB : SA wB' = SA wB := SA_c5 (fun c _ _ => hB' c (by omega))
  have hRB : ∀ b, 2 ≤ b → b + 3 < 150 → RB wA' b = RB wA b := fun b h2 hb => RB_congr (hA' _ (by omega) (by omega)) (hA' _ (by omega) (by omega)) (hA' _ (by omega) (by omega)) (hA' _ (by omega) (by omega))
  have hRBB : ∀ j, RBB wB' j = RBB wB j := fun j => RBB_congr (fun c a b => hB' c (by omega)) j
  have hRrA : RrA m wA' = RrA m wA := by
    unfold RrA Rof
    funext R
    refine propext (exists_congr fun i => and_congr_right fun hi => ?_)
    unfold FA GA
    rw [hRB _ (by omega) (by omega), hA' _ (by omega) (by omega)]
  have hRrB : RrB m wB' = RrB m wB := RrB_c (fun c a b => hB' c a)
  have hFaC : ∀ hour wo f, FaC wA' hour wo f ↔ FaC wA hour wo f := fun hour wo f => by
    unfold FaC
    rw [hA' 13 (by omega) (by omega), hA' 11 (by omega) (by omega), hA' 12 (by omega) (by omega)]
  have hFFA : ∀ hour wo, FFA nF wA' hour wo = FFA nF wA hour wo := fun hour wo => by
    unfold FFA
    funext r k
    refine propext (exists_congr fun f => and_congr Iff.rfl (and_congr (hFaC hour wo f) ?_))
    rw [hA' 8 (by omega) (by omega), hA' 9 (by omega) (by omega)]
  have hFFB : ∀ hour wo, FFB nF wB' hour wo = FFB nF wB hour wo := fun hour wo => FFB_c (fun c a b => hB' c a)
  refine ⟨⟨WfS_congr (fun c a b k => by rw [hA' c (by omega) (by omega)]) i1.1, ?_⟩, ?_, ?_, ?_, ?_, ⟨hA12, hB1, hn⟩, ?_, ?_, fun h h4 => ?_, ?_, ?_⟩
  · rw [hB' 3 (by omega), hB' 4 (by omega), hB' 5 (by omega), hB' 2 (by omega), hA' 3 (by omega) (by omega), hA' 4 (by omega) (by omega), hA' 5 (by omega) (by omega)]
    exact i1.2
  · obtain ⟨f1, f2, f3, f4⟩ := i2
    refine ⟨?_, FaB_c (fun c a b => hB' c a) (hf 7 (by omega)) f2, ?_, ?_⟩
    · obtain ⟨x1, x2, x3⟩ := f1
      refine ⟨by rw [hA' 7 (by omega) (by omega)]; exact x1, x2, fun f hf => ?_⟩
      obtain ⟨r, k, y1, y2, y3, y4, y5, y6⟩ := x3 f hf
      exact ⟨r, k, by rw [hA' 8 (by omega) (by omega)]; exact y1, y2, by rw [hA' 3 (by omega) (by omega)]; exact y3, by rw [hA' 9 (by omega) (by omega)]; exact y4, y5, (Vc_3 (hA' 3 (by omega) (by omega))).mpr y6⟩
    · rw [hB' 7 (by omega), hB' 8 (by omega), hB' 9 (by omega), hB' 10 (by omega), hB' 11 (by omega), hB' 12 (by omega), hA' 8 (by omega) (by omega), hA' 9 (by omega) (by omega), hA' 10 (by omega) (by omega), hA' 11 (by omega) (by omega), hA' 12 (by omega) (by omega), hA' 13 (by omega) (by omega)]
      exact f3
    · rw [hA' 7 (by omega) (by omega), hA' 13 (by omega) (by omega)]
      exact f4
  · obtain ⟨r1, r2, r3⟩ := i3
    refine ⟨?_, ?_, fun j hj => ?_⟩
    · obtain ⟨p1, p2, p3, p4, p5⟩ := r1
      refine ⟨WfS_congr (fun c a b k => by rw [hA' c (by omega) (by omega)]) p1, by rw [hA' 14 (by omega) (by omega)]; exact p2, p3, by rw [hA' 19 (by omega) (by omega)]; exact p4, fun j hj => ?_⟩
      unfold RuA
      rw [hRB _ (by omega) (by omega), hSA, hA' _ (by omega) (by omega)]
      exact p5 j hj
    · obtain ⟨p1, p2, p3⟩ := r2
      refine ⟨by rw [hf 14 (by omega)]; exact p1, p2, fun j hj => ⟨RuB_c (fun c a b => hB' c a) (p3 j hj).1, ?_⟩⟩
      rw [hRBB]
      exact (p3 j hj).2
    · rw [hRB _ (by omega) (by omega), hRBB, hB' 13 (by omega), hA' _ (by omega) (by omega)]
      exact r3 j hj
  · obtain ⟨d1, d2, d3, d4, d5⟩ := i4
    refine ⟨by rw [hA' 14 (by omega) (by omega)]; exact d1, by rw [hf 15 (by omega)]; exact d2, d3, by rw [hA' 20 (by omega) (by omega)]; exact d4, fun j hj => ?_⟩
    obtain ⟨e1, e2, e3, e4, e5⟩ := d5 j hj
    rw [hRB _ (by omega) (by omega), hRBB]
    refine ⟨?_, RuBL_c (fun c a b => hB' c a) e2, e3, e4, e5⟩
    unfold DnA
    rw [hRB _ (by omega) (by omega), hSA, hA' _ (by omega) (by omega)]
    exact e1
  · obtain ⟨e1, e2, e3, e4, e5, e6⟩ := i5
    unfold IDrf DnA
    rw [hRB 94 (by omega) (by omega), hRBB, hSA, hB' 14 (by omega), hA' 94 (by omega) (by omega), hA' 3 (by omega) (by omega)]
    exact ⟨e1, RuBL_c (fun c a b => hB' c a) e2, e3, e4, e5, e6⟩
  · obtain ⟨l1, l2, l3, l4⟩ := i7
    refine ⟨?_, ?_, l3, ?_⟩
    · unfold LA
      rw [hA' 21 (by omega) (by omega), hA' 14 (by omega) (by omega)]
      exact l1
    · unfold LB
      rw [hB' 6 (by omega)]
      exact l2
    · rw [hRrA, hSA]
      exact l4
  · refine ⟨i8.1, i8.2.1, ?_⟩
    rw [hA' 108 (by omega) (by omega), hA' 109 (by omega) (by omega)]
    exact i8.2.2
  · have hg := i8.rng (i := h) (by omega)
    exact IHou_now h150 (IHou_g (i9 h h4) (fun c _ _ => hA' c (by omega) (by omega)) (fun c _ _ => hA' c (by omega) (by omega)) (fun r k => by rw [hFFA]) (by rw [hRrA]; exact RS.refl) (Or.inl h150) (fun c _ _ => hB' c (by omega)) (by rw [hB' 20 (by omega)]) (fun s _ => by rw [hB' 21 (by omega)]) (fun s _ => by rw [hB' 22 (by omega)]) (fun r k => by rw [hFFB]) (by rw [hRrB]; exact RS.refl))
  · rw [hA' 104 (by omega) (by omega)]; exact i10
  · intro v hv
    rw [hB' 24 (by omega)] at hv
    rw [hB' 23 (by omega)]
    exact i11 v hv
theorem st_pass : St_pass II := by
  intro wA wB hII
  obtain ⟨nF, m, d, now, top, L, g, hI⟩ := id hII
  obtain ⟨n1, n2, n3⟩ := hI.2.2.2.2.2.1
  have hno : ∀ x : Int, ¬ x = 0 → f_Re_pass_14 wB x = some (up wB 1 0 x, 0) := fun x hx => by
    unfold f_Re_pass_14
    exact ref_no (f := fun v => bl (up v 1 1 (wr ((v 1 1) + 1))) fun w7 => some (w7, w7 1 1)) (g := fun v => some (v, 0)) hx
  by_cases q : now = 3
  · refine no_v (e := 3) (x := 1) (fun e => e = 0 ∨ e = 3) hII (by decide) ?_ ?_ rfl (Or.inr rfl)
    · unfold f_Dm_pass
      rw [n1, if_neg (by omega)]
    · unfold f_Re_pass
      rw [n2, if_pos (by omega), hno 1 z10]
  · have eA : wr ((now : Int) + 1) = ((now + 1 : Nat) : Int) := by rw [wr_of (x := (now : Int) + 1) ⟨by omega, by omega⟩]; omega
    refine ⟨(up (up wA 1 12 ((now + 1 : Nat) : Int)) 150 0 0, 0, ((now + 1 : Nat) : Int)), (up (up wB 1 0 0) 1 1 ((now + 1 : Nat) : Int), ((now + 1 : Nat) : Int)), ?_, ?_, ?_, Or.inl rfl, fun _ => rfl, nF, m, d, now + 1, top, L, g, Inv_pass (fun c h1 h2 => ?_) ?_ ?_ (fun c h1 => ?_) (fun k hk => ?_) ?_ (by omega) hI⟩
    · unfold f_Dm_pass
      rw [n1, if_pos (by omega), eA, bl_s, bl_s]
      have : up (up wA 1 12 ((now + 1 : Nat) : Int)) 150 0 0 1 12 = ((now + 1 : Nat) : Int) := by simp [up]
      rw [this]
    · unfold f_Re_pass
      rw [n2, if_neg (by omega)]
      unfold f_Re_pass_14
      rw [ref_ok (f := fun v => bl (up v 1 1 (wr ((v 1 1) + 1))) fun w7 => some (w7, w7 1 1)) (g := fun v => some (v, 0)), bl_s]
      have e1 : up wB 1 0 0 1 1 = (now : Int) := by simp [up]; exact n2
      have e2 : up (up wB 1 0 0) 1 1 ((now + 1 : Nat) : Int) 1 1 = ((now + 1 : Nat) : Int) := by simp [up]
      rw [e1, eA, e2]
    · unfold f_Re_thrown
      have : up (up wB 1 0 0) 1 1 ((now + 1 : Nat) : Int) 1 0 = 0 := by simp [up]
      show some (up (up wB 1 0 0) 1 1 ((now + 1 : Nat) : Int) 1 0) = _
      rw [this]
      rfl
    · funext k; simp [up, h1, h2]
    · simp [up]
    · simp [up]
    · funext k; simp [up, h1]
    · simp [up, show k ≠ 0 by omega, show k ≠ 1 by omega]
    · simp [up]
