/-! ACTS: the numbers of facts and rules, the hour, the draft's literals (some rows began as st_..) -/
def hold (w : World) : Nat := cnt (fun p => decide (w 95 p = 0)) (w 94 0).toNat
def Ky (wA w' : World) (a b c : Int) : Prop := w' 7 0 = wA 7 0 + a ∧ w' 14 4 = wA 14 4 + b ∧ w' 1 12 = wA 1 12 + c ∧ w' 3 = wA 3
def Dk (wA w' : World) : Prop := w' 94 0 = wA 94 0 ∧ w' 95 = wA 95
theorem Dk.refl {w : World} : Dk w w := ⟨rfl, rfl⟩
theorem Dk.of {wA w' : World} (h94 : w' 94 = wA 94) (h95 : w' 95 = wA 95) : Dk wA w' := ⟨by rw [h94], h95⟩
theorem Ky.refl {w : World} : Ky w w 0 0 0 := ⟨(Int.add_zero _).symm, (Int.add_zero _).symm, (Int.add_zero _).symm, rfl⟩
theorem Inv.nu {nF m d now top : Nat} {L g : Nat → Nat} {wA wB : World} (h : Inv nF m d now top L g wA wB) : wA 7 0 = (nF : Int) ∧ wA 14 4 = (m : Int) ∧ wA 1 12 = (now : Int) := ⟨h.2.1.1.1, h.2.2.1.1.2.1, h.2.2.2.2.2.1.1⟩
theorem ky_of {nF m d now top nF' m' d' now' top' : Nat} {L g L' g' : Nat → Nat} {wA wB w' u' : World} {a b c : Int} (h : Inv nF m d now top L g wA wB) (h' : Inv nF' m' d' now' top' L' g' w' u') (e1 : (nF' : Int) = nF + a) (e2 : (m' : Int) = m + b) (e3 : (now' : Int) = now + c) (e4 : w' 3 = wA 3) : Ky wA w' a b c := by
  obtain ⟨x1, x2, x3⟩ := h.nu
  obtain ⟨y1, y2, y3⟩ := h'.nu
  exact ⟨by rw [x1, y1, e1], by rw [x2, y2, e2], by rw [x3, y3, e3], e4⟩
theorem strat_fr {w w' : World} {m : Nat} {v : Int} (h : PgA w m) (h2 : f_Pr_stratify w = some (w', v)) : FrL w w' := by
  obtain ⟨w1, v1, L, top, s1, s2, -⟩ := stratify_n h
  have e := Option.some.inj (s1.symm.trans h2)
  have e1 : w1 = w' := congrArg Prod.fst e
  rw [← e1]
  exact s2
theorem no_ve (E : World → World × Nat × Int → Prop) {wA wB : World} {a b c x : Int} {e : Nat} {fA : Option (World × Nat × Int)} {fB : Option (World × Int)} (hE : E wA (wA, e, 0)) (P : Nat → Prop) (hII : II wA wB) (he0 : e ≠ 0) (h1 : fA = some (wA, e, 0)) (h2 : fB = some (up wB 1 0 x, 0)) (hx : x = hmL a b c e) (he : P e) : ∃ (oA : World × Nat × Int) (oB : World × Int), fA = some oA ∧ fB = some oB ∧ f_Re_thrown oB.1 = some (hmL a b c oA.2.1) ∧ P oA.2.1 ∧ (oA.2.1 = 0 → oA.2.2 = oB.2) ∧ II oA.1 oB.1 ∧ E wA oA :=
  ⟨_, _, h1, h2, by rw [thrown_n, hx], he, fun q => absurd q he0, II_up10 hII, hE⟩
def E_fact (wA : World) (oA : World × Nat × Int) : Prop := (oA.2.1 = 0 → Ky wA oA.1 1 0 0 ∧ 0 ≤ oA.2.2) ∧ (oA.2.1 ≠ 0 → Ky wA oA.1 0 0 0) ∧ Dk wA oA.1
theorem E_fact_no {wA : World} {e : Nat} (he : e ≠ 0) : E_fact wA (wA, e, 0) := ⟨fun h => absurd h he, fun _ => Ky.refl, Dk.refl⟩
def E_drop (wA : World) (oA : World × Nat × Int) : Prop := Ky wA oA.1 0 0 0 ∧ Dk wA oA.1
theorem E_drop_no {wA : World} {e : Nat} (he : e ≠ 0) : E_drop wA (wA, e, 0) := ⟨Ky.refl, Dk.refl⟩
def E_remove (wA : World) (oA : World × Nat × Int) : Prop := Ky wA oA.1 0 0 0 ∧ Dk wA oA.1
theorem E_remove_no {wA : World} {e : Nat} (he : e ≠ 0) : E_remove wA (wA, e, 0) := ⟨Ky.refl, Dk.refl⟩
def E_enter (wA : World) (oA : World × Nat × Int) : Prop := (oA.2.1 = 0 → Ky wA oA.1 0 1 0 ∧ oA.1 94 0 = 0 ∧ 0 ≤ oA.2.2) ∧ (oA.2.1 ≠ 0 → Ky wA oA.1 0 0 0 ∧ Dk wA oA.1)
theorem E_enter_no {wA : World} {e : Nat} (he : e ≠ 0) : E_enter wA (wA, e, 0) := ⟨fun h => absurd h he, fun _ => ⟨Ky.refl, Dk.refl⟩⟩
def E_deny (wA : World) (oA : World × Nat × Int) : Prop := Ky wA oA.1 0 0 0 ∧ (oA.2.1 = 0 → oA.1 94 0 = 0 ∧ 0 ≤ oA.2.2) ∧ (oA.2.1 ≠ 0 → Dk wA oA.1)
theorem E_deny_no {wA : World} {e : Nat} (he : e ≠ 0) : E_deny wA (wA, e, 0) := ⟨Ky.refl, fun h => absurd h he, fun _ => Dk.refl⟩
def E_pass (wA : World) (oA : World × Nat × Int) : Prop := (oA.2.1 = 0 → Ky wA oA.1 0 0 1 ∧ 0 ≤ oA.2.2) ∧ (oA.2.1 ≠ 0 → Ky wA oA.1 0 0 0) ∧ Dk wA oA.1
theorem E_pass_no {wA : World} {e : Nat} (he : e ≠ 0) : E_pass wA (wA, e, 0) := ⟨fun h => absurd h he, fun _ => Ky.refl, Dk.refl⟩
theorem enter_backF {nF m d now top : Nat} {L g : Nat → Nat} {wA wB ws wx ux : World} (hI : Inv nF m d now top L g wA wB) (hm12 : m < 12) (hs : ∀ c, c ≠ 21 → c ≠ 14 → (c < 22 + 4 * m ∨ 22 + 4 * m + 3 < c) → ws c = wA c) (hrs : IRef g ws) (hRx : LowR nF (m + 1) d now wx ux) (hFx : F1 g ws wx) (hVx : VV (wx 104)) (hVBx : VB ux) (hwx : wx 14 4 = ((m + 1 : Nat) : Int)) (hux : ux 1 14 = ((m + 1 : Nat) : Int)) : ∃ (wf uf : World), f_Dm_enter_83 wx = some (wf, 3, 0) ∧ f_Re_enter_100 ux = some (up uf 1 0 2, 0) ∧ II wf (up uf 1 0 2) ∧ Ky wA wf 0 0 0 ∧ (wf 94 = wx 94 ∧ wf 95 = wx 95) := by
  have i8 : IRef g wA := hI.2.2.2.2.2.2.2.1
  have i9 : ∀ h, h < 4 → IHou nF m L g wA wB now h := hI.2.2.2.2.2.2.2.2.1
  have hL := hI.low
  have hI9 := hI.nu
  clear hI
  have em2 : wr (((m + 1 : Nat) : Int) - 1) = (m : Int) := by rw [wr_of (x := ((m + 1 : Nat) : Int) - 1) ⟨by omega, by omega⟩]; omega
  obtain ⟨wA2, hw2⟩ : ∃ w, w = up wx 14 4 (m : Int) := ⟨_, rfl⟩
  obtain ⟨wB2, hu2⟩ : ∃ w, w = up ux 1 14 (m : Int) := ⟨_, rfl⟩
  have hR2 : LowR nF m d now wA2 wB2 := by rw [hw2, hu2]; exact LowR_cut hRx
  have a2C : ∀ c, c ≠ 14 → wA2 c = wx c := fun c h => by rw [hw2]; funext k; simp [up, h]
  have b2C : ∀ c, c ≠ 1 → wB2 c = ux c := fun c h => by rw [hu2]; funext k; simp [up, h]
  have all : ∀ c, c < 98 → c ≠ 21 → c ≠ 14 → (c < 22 + 4 * m ∨ 22 + 4 * m + 3 < c) → wA2 c = wA c := fun c h1 h2 h3 h4 => by
    rw [a2C c h3, hFx.1 c (by omega), hs c h2 h3 h4]
  have low : ∀ c, c < 14 → wA2 c = wA c := fun c h => all c (by omega) (by omega) (by omega) (by omega)
  have high : ∀ c, 98 ≤ c → ws c = wA c := fun c h => hs c (by omega) (by omega) (by omega)
  have hRr2 : RrA m wA2 = RrA m wA := RrA_rows (fun j hj => ⟨RB_congr (all _ (by omega) (by omega) (by omega) (by omega)) (all _ (by omega) (by omega) (by omega) (by omega)) (all _ (by omega) (by omega) (by omega) (by omega)) (all _ (by omega) (by omega) (by omega) (by omega)), by rw [all _ (by omega) (by omega) (by omega) (by omega)]⟩)
  have hr2 : IRef g wA2 := by
    have := hFx.ref hrs
    exact ⟨this.1, this.2.1, by rw [a2C 108 (by omega), a2C 109 (by omega)]; exact this.2.2⟩
  have e150 : wA2 150 = wA 150 := by rw [a2C 150 (by omega), hFx.2.2.2 150 (by omega), high 150 (by omega)]
  have e151 : wA2 151 = wA 151 := by rw [a2C 151 (by omega), hFx.2.2.2 151 (by omega), high 151 (by omega)]
  have eFF : ∀ (h : Nat) r' k', FFA nF wA (h : Int) 0 r' k' ↔ FFA nF wA2 (h : Int) 0 r' k' := fun h r' k' => by
    unfold FFA FaC
    rw [low 8 (by omega), low 9 (by omega), low 11 (by omega), low 12 (by omega), low 13 (by omega)]
  have eFC : ∀ h : Nat, FCA nF wA2 (h : Int) = FCA nF wA (h : Int) := fun h => by
    unfold FCA FaC
    rw [low 8 (by omega), low 9 (by omega), low 10 (by omega), low 11 (by omega), low 12 (by omega), low 13 (by omega)]
  have hcs : ∀ h, h < 4 → HAc nF m L wA2 (g h) now h := fun h h4 => by
    have hg := i8.rng (i := h) (by omega)
    refine HAc_g (nF' := nF) (m' := m) (w' := wA2) ((i9 h h4).A.1) (fun k h1 h2 => low k (by omega)) (fun k h1 h2 => ?_) (eFF h) (by rw [hRr2]; exact RS.refl) (Or.inr ⟨by rw [e150], e151, eFC h⟩)
    rw [a2C k (by omega), hFx.2.1 h h4 k h1 h2, high k (by omega)]
  obtain ⟨w3, v3, u3, u4, top3, L3, t1, t2, t3, t4⟩ := both_again hL hR2 hRr2 (SA_c5 (fun c a b => low c (by omega))) hr2 (by rw [a2C 104 (by omega)]; exact hVx) (VB_congr (b2C 23 (by omega)) (b2C 24 (by omega)) hVBx) hcs
  refine ⟨w3, u4, ?_, ?_, ⟨nF, m, d, now, top3, L3, g, Inv_up10 t4⟩, ?_, ?_⟩
  · unfold f_Dm_enter_83 f_Pr_takeBack
    rw [hwx, em2, bl_s, ← hw2, t1, bnd_s, bnd_s]
  · unfold f_Re_enter_100
    rw [hux, em2, bl_s, ← hu2, t2, bnd_s, t3, bnd_s, refused_n, bnd_s]
  · obtain ⟨x1, x2, x3⟩ := hI9
    obtain ⟨y1, y2, y3⟩ := t4.nu
    exact ⟨by rw [x1, y1, Int.add_zero], by rw [x2, y2, Int.add_zero], by rw [x3, y3, Int.add_zero], ((strat_fr hR2.2.2.1.1 t1).cell (by decide) (by decide)).trans (low 3 (by omega))⟩
  · have hfr := strat_fr hR2.2.2.1.1 t1
    exact ⟨by rw [hfr.cell (by decide) (by decide), a2C 94 (by decide)], by rw [hfr.cell (by decide) (by decide), a2C 95 (by decide)]⟩
theorem sn_fact : ∀ {wA wB : World}, II wA wB → ∀ x1 x2 x3 x4 x5 x6 x7 : Int, R32 x1 → R32 x2 → R32 x3 → R32 x4 → R32 x5 → R32 x6 → R32 x7 → ∃ (oA : World × Nat × Int) (oB : World × Int), f_Dm_fact wA x1 x2 x3 x4 x5 x6 x7 = some oA ∧ f_Re_fact wB x1 x2 x3 x4 x5 x6 x7 = some oB ∧ f_Re_thrown oB.1 = some (hmL 1 2 3 oA.2.1) ∧ (oA.2.1 = 0 ∨ oA.2.1 = 1 ∨ oA.2.1 = 2 ∨ oA.2.1 = 3) ∧ (oA.2.1 = 0 → oA.2.2 = oB.2) ∧ II oA.1 oB.1 ∧ E_fact wA oA := by
  intro wA wB hII x1 x2 x3 x4 x5 x6 x7 _ _ _ _ _ _ _
  obtain ⟨nF, m, d, now, top, L, g, hI⟩ := id hII
  obtain ⟨i1, i2, i3, i4, i5, i6, i7, i8, i9, i10, i11⟩ := id hI
  have hm : m ≤ 12 := i3.1.2.2.1
  have n7A : wA 7 0 = (nF : Int) := i2.1.1
  have n7B : wB 1 7 = (nF : Int) := i2.2.1.1
  have h24 : nF ≤ 24 := i2.1.2.1
  have hrest : ∀ e : Nat, ∀ x : Int, ¬ x = 0 → e ≠ 0 → x = hmL 1 2 3 e → (e = 1 ∨ e = 2 ∨ e = 3) → f_Dm_fact wA x1 x2 x3 x4 x5 x6 x7 = some (wA, e, 0) → f_Re_fact wB x1 x2 x3 x4 x5 x6 x7 = f_Re_fact_96 wB x1 x2 x3 x4 x5 x6 x7 x → ∃ (oA : World × Nat × Int) (oB : World × Int), f_Dm_fact wA x1 x2 x3 x4 x5 x6 x7 = some oA ∧ f_Re_fact wB x1 x2 x3 x4 x5 x6 x7 = some oB ∧ f_Re_thrown oB.1 = some (hmL 1 2 3 oA.2.1) ∧ (oA.2.1 = 0 ∨ oA.2.1 = 1 ∨ oA.2.1 = 2 ∨ oA.2.1 = 3) ∧ (oA.2.1 = 0 → oA.2.2 = oB.2) ∧ II oA.1 oB.1 ∧ E_fact wA oA := fun e x hx he he2 he3 h1 h2 =>
    no_ve E_fact (E_fact_no he) (e := e) (x := x) (fun e => e = 0 ∨ e = 1 ∨ e = 2 ∨ e = 3) hII he h1 (by rw [h2, fact96_no hx]) he2 (Or.inr he3)
  rcases decl_both i1 x1 with ⟨r, rfl, hr, hd, hA, hB⟩ | ⟨hz, hA, hB⟩
  · obtain ⟨v, hv, hv2⟩ := permits_n (so := 0) (x := x2) (y := x3) (z := x4) i1.1 hr (by omega)
    have hv : f_Sc_permits wA (r : Int) 0 x2 x3 x4 = some v := hv
    obtain ⟨u, hu, hu2⟩ := areValues_n (fr := 0) (so := 0) (x := x2) (y := x3) (z := x4) i1.T hr (Or.inl ⟨rfl, rfl⟩)
    have e3 : wB 3 r = wA 3 r := (i1.2 r hr).1
    rw [e3] at hu2
    have hBf : ∀ s : Int, f_Re_fact_58 wB (r : Int) x2 x3 x4 x5 x6 x7 s = if s = 0 then f_Re_fact_96 wB (r : Int) x2 x3 x4 x5 x6 x7 2 else (if (nF : Int) = 24 then f_Re_fact_96 wB (r : Int) x2 x3 x4 x5 x6 x7 3 else f_Re_fact_96 wB (r : Int) x2 x3 x4 x5 x6 x7 0) := fun s => by
      unfold f_Re_fact_58
      rw [hB, bnd_s, if_neg z10, n7B]
    have hBall : f_Re_fact wB (r : Int) x2 x3 x4 x5 x6 x7 = if (u = 1 ∧ (1 ≤ x5 ∧ x5 ≤ 100) ∧ (0 ≤ x6 ∧ x6 ≤ 3) ∧ (x6 ≤ x7 ∧ x7 ≤ 3)) then f_Re_fact_58 wB (r : Int) x2 x3 x4 x5 x6 x7 1 else f_Re_fact_58 wB (r : Int) x2 x3 x4 x5 x6 x7 0 := by
      unfold f_Re_fact f_Re_fact_57
      rw [hB, bnd_s, if_neg z10, hu, bnd_s]
      rcases hu2 with ⟨rfl, -⟩ | ⟨rfl, -⟩
      · rw [if_neg z10, inB_n, bnd_s]
        by_cases q5 : 1 ≤ x5 ∧ x5 ≤ 100
        · rw [if_pos q5, if_neg z10, inB_n, bnd_s]
          by_cases q6 : 0 ≤ x6 ∧ x6 ≤ 3
          · rw [if_pos q6, if_neg z10, inB_n, bnd_s]
            by_cases q7 : x6 ≤ x7 ∧ x7 ≤ 3
            · rw [if_pos q7, if_neg z10, if_pos ⟨rfl, q5, q6, q7⟩]
            · rw [if_neg q7, if_pos rfl, if_neg (fun z => q7 z.2.2.2)]
          · rw [if_neg q6, if_pos rfl, if_neg (fun z => q6 z.2.2.1)]
        · rw [if_neg q5, if_pos rfl, if_neg (fun z => q5 z.2.1)]
      · rw [if_pos rfl, if_neg (fun z => absurd z.1 (by decide))]
    by_cases qok : (∀ j, j < 3 → okC 0 (wA 3 r).toNat j (pick x2 x3 x4 j)) ∧ (1 ≤ x5 ∧ x5 ≤ 100) ∧ (0 ≤ x6 ∧ x6 ≤ 3) ∧ (x6 ≤ x7 ∧ x7 ≤ 3)
    · obtain ⟨ho, q5, q6, q7⟩ := qok
      have hv1 : v = 1 := by
        rcases hv2 with ⟨z, -⟩ | ⟨-, z⟩
        · exact z
        · exact absurd ho z
      have hu1 : u = 1 := by
        rcases hu2 with ⟨z, -⟩ | ⟨-, z⟩
        · exact z
        · exact absurd ho z
      subst hv1
      obtain ⟨a, b, c, rfl, rfl, rfl, ha, hb, hc⟩ := ok_pk ho
      have hA0 : f_Dm_fact wA (r : Int) (a : Int) (b : Int) (c : Int) x5 x6 x7 = if (nF : Int) < 24 then (bnd (f_Fa_append wA (r : Int) ((pk a b c : Nat) : Int) x5 x6 x7) fun v30 => bnd (f_Dm_renew v30 x6 x7) fun v33 => if v33.2 = 0 then (bnd (f_Fa_takeBack v33.1 ) fun v39 => some (v39, 3, 0)) else (some (v33.1, 0, wr ((v33.1 7 0) - 1)))) else some (wA, 3, 0) := by
        unfold f_Dm_fact
        rw [hA, bnd_s, if_neg z10, hv, bnd_s, if_neg z10, if_neg (by omega), if_neg (by omega), if_neg (by omega), if_neg (by omega), if_neg (by omega), if_pos (by omega), packed_n ha hb hc, bnd_s, n7A]
      have hB0 : f_Re_fact wB (r : Int) (a : Int) (b : Int) (c : Int) x5 x6 x7 = if (nF : Int) = 24 then f_Re_fact_96 wB (r : Int) (a : Int) (b : Int) (c : Int) x5 x6 x7 3 else f_Re_fact_96 wB (r : Int) (a : Int) (b : Int) (c : Int) x5 x6 x7 0 := by
        rw [hBall, if_pos ⟨hu1, q5, q6, q7⟩, hBf, if_neg z10]
      by_cases q24 : nF = 24
      · exact hrest 3 3 z30 (by decide) rfl (by omega) (by rw [hA0, if_neg (by omega)]) (by rw [hB0, if_pos (by omega)])
      have hlt : nF < 24 := by omega
      obtain ⟨fr, rfl⟩ : ∃ n : Nat, x6 = (n : Int) := ⟨x6.toNat, by omega⟩
      obtain ⟨to, rfl⟩ : ∃ n : Nat, x7 = (n : Int) := ⟨x7.toNat, by omega⟩
      have hcn := cnt_le (P := fun f => decide (wA 13 f = 0)) nF
      have hap := append_n (r := (r : Int)) (k := ((pk a b c : Nat) : Int)) (x5 := x5) (x6 := (fr : Int)) (x7 := (to : Int)) n7A hlt i2.2.2.2 (by omega)
      obtain ⟨wA1, hw1⟩ : ∃ w, w = fApp wA nF (r : Int) ((pk a b c : Nat) : Int) x5 (fr : Int) (to : Int) := ⟨_, rfl⟩
      obtain ⟨wB1, hu1⟩ : ∃ w, w = fcB (up wB 1 0 0) nF (r : Int) (a : Int) (b : Int) (c : Int) x5 (fr : Int) (to : Int) := ⟨_, rfl⟩
      have hA1 : ∀ k, (k < 7 ∨ 13 < k) → wA1 k = wA k := fun k hk => by
        rw [hw1]; unfold fApp; funext q
        simp [up, show k ≠ 7 by omega, show k ≠ 8 by omega, show k ≠ 9 by omega, show k ≠ 10 by omega, show k ≠ 11 by omega, show k ≠ 12 by omega, show k ≠ 13 by omega]
      have hAo : ∀ k f, 8 ≤ k → k ≤ 13 → f < nF → wA1 k f = wA k f := fun k f h1 h2 h3 => by
        rw [hw1]; unfold fApp
        simp [up, show f ≠ nF by omega, show k ≠ 7 by omega]
      have hB1c : ∀ k, k ≠ 1 → (k < 7 ∨ 12 < k) → wB1 k = wB k := fun k hk hk2 => by
        rw [hu1]; unfold fcB; funext q
        simp [up, hk, show k ≠ 7 by omega, show k ≠ 8 by omega, show k ≠ 9 by omega, show k ≠ 10 by omega, show k ≠ 11 by omega, show k ≠ 12 by omega]
      have hB1f : ∀ k, k ≠ 0 → k ≠ 7 → wB1 1 k = wB 1 k := fun k h1 h2 => by
        rw [hu1]; unfold fcB
        simp [up, h1, h2]
      have hB10 : wB1 1 0 = 0 := by rw [hu1]; unfold fcB; simp [up]
      have hB17 : wB1 1 7 = ((nF + 1 : Nat) : Int) := by rw [hu1]; unfold fcB; simp [up]
      have hBo : ∀ k f, 7 ≤ k → k ≤ 12 → k ≠ 8 → f < nF → wB1 k f = wB k f := fun k f h1 h2 h3 h4 => by
        rw [hu1]; unfold fcB
        simp [up, h3, show f ≠ nF by omega, show k ≠ 1 by omega]
      have hB8 : ∀ k, k < 3 * nF → wB1 8 k = wB 8 k := fun k hk => by
        rw [hu1]; unfold fcB
        simp [up, show k ≠ 3 * nF by omega, show k ≠ 3 * nF + 1 by omega, show k ≠ 3 * nF + 2 by omega]
      have e11 : wA1 11 nF = (fr : Int) := by rw [hw1]; unfold fApp; simp [up]
      have e12 : wA1 12 nF = (to : Int) := by rw [hw1]; unfold fApp; simp [up]
      have e70 : wA1 7 0 = ((nF + 1 : Nat) : Int) := by rw [hw1]; unfold fApp; simp [up]
      have e71 : wA1 7 1 = wA 7 1 + 1 := by rw [hw1]; unfold fApp; simp [up]
      have hFac : IFac (nF + 1) wA1 wB1 := by
        rw [hw1, hu1]
        refine IFac_add i2 hlt i1 hr hd ⟨ha, hb, hc⟩ (fun j hj h3 => ?_) q5 ⟨by omega, by omega, by omega⟩
        have z := (okC_ge (show (wA 3 r).toNat ≤ j by omega)).mp (ho j hj)
        have : j = 0 ∨ j = 1 ∨ j = 2 := by omega
        rcases this with rfl | rfl | rfl
        · have z : (a : Int) = 0 := z
          show cl0 _ = 0
          rw [cl0_pk ha hb hc]; omega
        · have z : (b : Int) = 0 := z
          show cl1 _ = 0
          rw [cl1_pk ha hb hc]; omega
        · have z : (c : Int) = 0 := z
          show cl2 _ = 0
          rw [cl2_pk ha hb hc]; omega
      have hL := hI.low
      have hL1 : Low (nF + 1) m d now top L wA1 wB1 := Low_fac (fun k _ hk => hA1 k hk) (fun k h1 h2 h3 => hB1c k (by omega) h3) (fun k hk => hB1f k (by omega) (by omega)) hL hFac
      have hr1 : IRef g wA1 := ⟨i8.1, i8.2.1, by rw [hA1 108 (by omega), hA1 109 (by omega)]; exact i8.2.2⟩
      have hV1 : VV (wA1 104) := by rw [hA1 104 (by omega)]; exact i10
      have hVB1 : VB wB1 := VB_congr (hB1c 23 (by omega) (by omega)) (hB1c 24 (by omega) (by omega)) i11
      have hRr : RrA m wA1 = RrA m wA := RrA_fac hm (fun k h1 h2 => hA1 k (by omega))
      obtain ⟨w', v, u', p1, p2, p3, p4, p5, p6, p7⟩ := both_new (a := fr) (b := to) hL1 hr1 hV1 hVB1 (by omega) (by omega) (fun h h4 hn => by
        have hg := i8.rng (i := h) (by omega)
        refine (HAc_g (nF' := nF + 1) (m' := m) (w' := wA1) ((i9 h h4).A.1) (fun k h1 h2 => hA1 k (by omega)) (fun k h1 h2 => hA1 k (by omega)) (FFA_more hAo ?_) (by rw [hRr]; exact RS.refl) ?_).t
        · rw [e11, e12]; omega
        · by_cases q : wA 150 0 = 0
          · exact Or.inl (by rw [hA1 150 (by omega)]; exact q)
          · refine Or.inr ⟨by rw [hA1 150 (by omega)], by rw [hA1 151 (by omega)], ?_⟩
            funext r' k' v'
            have := FCA_cut (hour := (h : Int)) hAo
            rw [← this]
            refine propext ⟨?_, ?_⟩
            · rintro ⟨f, hf, hh⟩
              by_cases qf : f = nF
              · subst qf
                have y1 := hh.1.2.1
                have y2 := hh.1.2.2.1
                rw [e11] at y1
                rw [e12] at y2
                omega
              · exact ⟨f, by omega, hh⟩
            · rintro ⟨f, hf, hh⟩
              exact ⟨f, by omega, hh⟩)
      have hBrun : f_Re_fact wB (r : Int) (a : Int) (b : Int) (c : Int) x5 (fr : Int) (to : Int) = fcK wB1 := by
        rw [hB0, if_neg (by omega), fact96_n n7B hlt, ← hu1]
      have u17 : u' 1 7 = ((nF + 1 : Nat) : Int) := by rw [p3.f (by omega) (by omega)]; exact hB17
      have u10 : u' 1 0 = 0 := by rw [p3.f (by omega) (by omega)]; exact hB10
      have w70 : w' 7 0 = ((nF + 1 : Nat) : Int) := by rw [p6 7 (by omega)]; exact e70
      have w71 : w' 7 1 = wA 7 1 + 1 := by rw [p6 7 (by omega)]; exact e71
      have ew : wr (((nF + 1 : Nat) : Int) - 1) = (nF : Int) := by rw [wr_of (x := ((nF + 1 : Nat) : Int) - 1) ⟨by omega, by omega⟩]; omega
      have ew2 : wr ((wA 7 1 + 1) - 1) = wA 7 1 := by
        have := i2.2.2.2
        rw [wr_of (x := (wA 7 1 + 1) - 1) ⟨by omega, by omega⟩]; omega
      rcases p7 with ⟨hv1, g', hInv⟩ | ⟨hv0, hF1⟩
      · refine ⟨(w', 0, (nF : Int)), (u', (nF : Int)), ?_, ?_, ?_, Or.inl rfl, fun _ => rfl, ⟨nF + 1, m, d, now, top, L, g', hInv⟩, fun _ => ⟨ky_of hI hInv (by omega) (by omega) (by omega) ((p6 3 (by omega)).trans (hA1 3 (by omega))), Int.natCast_nonneg _⟩, fun h => absurd rfl h, Dk.of ((p6 94 (by omega)).trans (hA1 94 (by omega))) ((p6 95 (by omega)).trans (hA1 95 (by omega)))⟩
        · rw [hA0, if_pos (by omega), hap, bnd_s, ← hw1, p1, bnd_s]
          show (if v = 0 then _ else some (w', 0, wr (w' 7 0 - 1))) = _
          rw [hv1, if_neg z10, w70, ew]
        · rw [hBrun]
          unfold fcK
          rw [p2, bnd_s]
          show (if v = 0 then _ else some (u', wr (u' 1 7 - 1))) = _
          rw [hv1, if_neg z10, u17, ew]
        · unfold f_Re_thrown
          show some (u' 1 0) = _
          rw [u10]
          rfl
      · obtain ⟨wA2, hw2⟩ : ∃ w, w = up (up w' 7 0 (nF : Int)) 7 1 (wA 7 1) := ⟨_, rfl⟩
        obtain ⟨wB2, hu2⟩ : ∃ w, w = up u' 1 7 (nF : Int) := ⟨_, rfl⟩
        have a2 : ∀ k, k ≠ 7 → wA2 k = w' k := fun k hk => by rw [hw2]; funext q; simp [up, hk]
        have b2 : ∀ k, k ≠ 1 → wB2 k = u' k := fun k hk => by rw [hu2]; funext q; simp [up, hk]
        have b21 : ∀ k, k ≠ 7 → wB2 1 k = u' 1 k := fun k hk => by rw [hu2]; simp [up, hk]
        have a2o : ∀ k, k < 98 → (k < 7 ∨ 13 < k) → wA2 k = wA k := fun k h1 h2 => by rw [a2 k (by omega), p6 k (by omega), hA1 k h2]
        have a2f : ∀ k f, 8 ≤ k → k ≤ 13 → f < nF → wA2 k f = wA k f := fun k f h1 h2 h3 => by rw [a2 k (by omega), p6 k (by omega), hAo k f h1 h2 h3]
        have b2o : ∀ k, 2 ≤ k → k < 20 → (k < 7 ∨ 12 < k) → wB2 k = wB k := fun k h1 h2 h3 => by rw [b2 k (by omega), p3.cell (by omega) (by omega), hB1c k (by omega) h3]
        have hFac2 : IFac nF wA2 wB2 := IFac_cut (a2o 3 (by omega) (by omega)) (by rw [hw2]; simp [up]) (by rw [hw2]; simp [up]) a2f (b2o 3 (by omega) (by omega) (by omega)) (by rw [hu2]; simp [up]) (fun k f h1 h2 h3 h4 => by rw [b2 k (by omega), p3.cell (by omega) (by omega), hBo k f h1 h2 h3 h4]) (fun k hk => by rw [b2 8 (by omega), p3.cell (by omega) (by omega), hB8 k hk]) i2
        have hL2 : Low nF m d now top L wA2 wB2 := Low_fac a2o b2o (fun k hk => by rw [b21 k (by omega), p3.f (by omega) (by omega), hB1f k (by omega) (by omega)]) hL hFac2
        have hr2 : IRef g wA2 := by
          have := hF1.ref hr1
          exact ⟨this.1, this.2.1, by rw [a2 108 (by omega), a2 109 (by omega)]; exact this.2.2⟩
        have hRr2 : RrA m wA2 = RrA m wA := RrA_fac hm (fun k h1 h2 => a2o k h2 (by omega))
        obtain ⟨u2, t1, t2, t3⟩ := both_back hL2 hr2 (by rw [a2 104 (by omega)]; exact p5) (VB_congr (b2 23 (by omega)) (b2 24 (by omega)) p4) (fun h h4 => by
          have hg := i8.rng (i := h) (by omega)
          refine HAc_g (nF' := nF) (m' := m) (w' := wA2) ((i9 h h4).A.1) (fun k h1 h2 => a2o k (by omega) (by omega)) (fun k h1 h2 => ?_) (fun r' k' => (FFA_cut a2f r' k').symm) (by rw [hRr2]; exact RS.refl) (Or.inr ⟨?_, ?_, FCA_cut a2f⟩)
          · rw [a2 k (by omega), hF1.2.1 h h4 k h1 h2, hA1 k (by omega)]
          · rw [a2 150 (by omega), hF1.2.2.2 150 (by omega), hA1 150 (by omega)]
          · rw [a2 151 (by omega), hF1.2.2.2 151 (by omega), hA1 151 (by omega)])
        refine ⟨(wA2, 3, 0), (up u2 1 0 3, 0), ?_, ?_, thrown_n, Or.inr (Or.inr (Or.inr rfl)), fun e => n30 e, ⟨nF, m, d, now, top, L, g, Inv_up10 t3⟩, fun e => n30 e, fun _ => ky_of hI t3 (by omega) (by omega) (by omega) (a2o 3 (by omega) (by omega)), Dk.of (a2o 94 (by omega) (by omega)) (a2o 95 (by omega) (by omega))⟩
        · rw [hA0, if_pos (by omega), hap, bnd_s, ← hw1, p1, bnd_s]
          show (if v = 0 then (bnd (f_Fa_takeBack w') fun v39 => some (v39, 3, 0)) else _) = _
          rw [hv0, if_pos rfl]
          unfold f_Fa_takeBack
          have e : up w' 7 0 (nF : Int) 7 1 = wA 7 1 + 1 := by simp [up, w71]
          rw [w70, ew, bl_s, e, ew2, bl_s, bnd_s, ← hw2]
        · rw [hBrun]
          unfold fcK
          rw [p2, bnd_s]
          show (if v = 0 then (bl (up u' 1 7 (wr (u' 1 7 - 1))) fun w39 => bnd (f_Re_buildAll w39) fun v41 => bnd (f_Re_refused v41.1 3) fun v44 => some (v44.1, 0)) else _) = _
          rw [hv0, if_pos rfl, u17, ew, bl_s, ← hu2, t1, bnd_s, refused_n, bnd_s]
    · refine hrest 2 2 z20 (by decide) rfl (by omega) ?_ ?_
      · unfold f_Dm_fact
        rw [hA, bnd_s, if_neg z10, hv, bnd_s]
        rcases hv2 with ⟨rfl, ho⟩ | ⟨rfl, -⟩
        · rw [if_neg z10]
          by_cases k1 : x5 < 1
          · rw [if_pos k1]
          · rw [if_neg k1]
            by_cases k2 : 100 < x5
            · rw [if_pos k2]
            · rw [if_neg k2]
              by_cases k3 : x6 < 0
              · rw [if_pos k3]
              · rw [if_neg k3]
                by_cases k4 : 4 ≤ x6
                · rw [if_pos k4]
                · rw [if_neg k4]
                  by_cases k5 : x7 < x6
                  · rw [if_pos k5]
                  · rw [if_neg k5]
                    by_cases k6 : x7 < 4
                    · exact absurd ⟨ho, ⟨by omega, by omega⟩, ⟨by omega, by omega⟩, by omega, by omega⟩ qok
                    · rw [if_neg k6]
        · rw [if_pos rfl]
      · rw [hBall]
        have : ¬ (u = 1 ∧ (1 ≤ x5 ∧ x5 ≤ 100) ∧ (0 ≤ x6 ∧ x6 ≤ 3) ∧ (x6 ≤ x7 ∧ x7 ≤ 3)) := fun z => by
          rcases hu2 with ⟨-, ho⟩ | ⟨z2, -⟩
          · exact qok ⟨ho, z.2⟩
          · rw [z2] at z; exact absurd z.1 (by decide)
        rw [if_neg this, hBf, if_pos rfl]
  · refine hrest 1 1 z10 (by decide) rfl (by omega) (by unfold f_Dm_fact; rw [hA, bnd_s, if_pos rfl]) ?_
    unfold f_Re_fact f_Re_fact_57 f_Re_fact_58
    rw [hB, bnd_s, if_pos rfl, bnd_s, if_pos rfl]
theorem sn_drop : ∀ {wA wB : World}, II wA wB → ∀ x1 : Int, R32 x1 → ∃ (oA : World × Nat × Int) (oB : World × Int), f_Dm_drop wA x1 = some oA ∧ f_Re_drop wB x1 = some oB ∧ f_Re_thrown oB.1 = some (hmL 1 0 2 oA.2.1) ∧ (oA.2.1 = 0 ∨ oA.2.1 = 1 ∨ oA.2.1 = 3) ∧ (oA.2.1 = 0 → oA.2.2 = oB.2) ∧ II oA.1 oB.1 ∧ E_drop wA oA := by
  intro wA wB hII x1 hx1
  obtain ⟨nF, m, d, now, top, L, g, hI⟩ := id hII
  obtain ⟨i1, i2, i3, i4, i5, i6, i7, i8, i9, i10, i11⟩ := id hI
  have hm : m ≤ 12 := i3.1.2.2.1
  have n7A : wA 7 0 = (nF : Int) := i2.1.1
  have n7B : wB 1 7 = (nF : Int) := i2.2.1.1
  have h24 : nF ≤ 24 := i2.1.2.1
  have hno : ∀ x : Int, ¬ x = 0 → f_Re_drop_35 wB x1 x = some (up wB 1 0 x, 0) := fun x hx => by
    unfold f_Re_drop_35
    rw [refused_n, bnd_s]
    show (if (if x = 0 then (0 : Int) else 1) = 0 then _ else some (up wB 1 0 x, 0)) = _
    rw [if_neg hx]
    exact if_neg z10
  have ewn : wr ((nF : Int) - 1) = (nF : Int) - 1 := wr_of (x := (nF : Int) - 1) ⟨by omega, by omega⟩
  by_cases q1 : 0 ≤ x1 ∧ x1 ≤ (nF : Int) - 1
  · obtain ⟨f, rfl⟩ : ∃ f : Nat, x1 = (f : Int) := ⟨x1.toNat, by omega⟩
    have hf : f < nF := by omega
    have hisf := isFact_n n7A h24 hf
    obtain ⟨k1, k2, ⟨k3, k3'⟩, ⟨k4, k5, k6⟩, k7, k8⟩ := i2.2.2.1 f hf
    have hA0 : f_Dm_drop wA (f : Int) = if wA 13 f = 0 then (bnd (f_Fa_setDropped wA (f : Int) 1) fun v12 => bnd (f_Fa_fromOf v12 (f : Int)) fun v15 => bnd (f_Fa_toOf v12 (f : Int)) fun v18 => bnd (f_Dm_renew v12 v15 v18) fun v21 => if v21.2 = 0 then (bnd (f_Fa_setDropped v21.1 (f : Int) 0) fun v27 => some (v27, 3, 0)) else (some (v21.1, 0, v21.1 7 1))) else some (wA, 3, 0) := by
      unfold f_Dm_drop f_Fa_isDropped
      rw [if_neg (by omega), n7A, if_pos (by omega), hisf, bnd_s, if_neg z10, gd_t ⟨by omega, by omega⟩, Int.toNat_natCast]
      by_cases q : wA 13 f = 0
      · rw [if_pos q, bnd_s, if_pos rfl, if_pos q]
      · rw [if_neg q, bnd_s, if_neg z10, if_neg q]
    have hB0 : f_Re_drop wB (f : Int) = if wA 13 f = 0 then f_Re_drop_35 wB (f : Int) 0 else f_Re_drop_35 wB (f : Int) 2 := by
      unfold f_Re_drop
      rw [n7B, ewn, inB_n, bnd_s, if_pos q1, if_neg z10, gd_t ⟨by omega, by omega⟩, Int.toNat_natCast, k7]
    by_cases q13 : wA 13 f = 0
    · have hcn := cnt_le (P := fun f => decide (wA 13 f = 0)) nF
      have h71 := i2.2.2.2
      have hc1 := cnt_1 (P := fun f => decide (wA 13 f = 0)) hf (by simpa using q13)
      obtain ⟨wA1, hw1⟩ : ∃ w, w = up (up wA 13 f 1) 7 1 (wA 7 1 - 1) := ⟨_, rfl⟩
      obtain ⟨wB1, hu1⟩ : ∃ w, w = up (up wB 1 0 0) 12 f 1 := ⟨_, rfl⟩
      have aO : ∀ k, k ≠ 7 → k ≠ 13 → wA1 k = wA k := fun k h1 h2 => by rw [hw1]; funext q; simp [up, h1, h2]
      have a13 : ∀ q, q ≠ f → wA1 13 q = wA 13 q := fun q h => by rw [hw1]; simp [up, h]
      have a13f : wA1 13 f = 1 := by rw [hw1]; simp [up]
      have a70 : wA1 7 0 = (nF : Int) := by rw [hw1]; simp [up, n7A]
      have a71 : wA1 7 1 = wA 7 1 - 1 := by rw [hw1]; simp [up]
      have bO : ∀ k, k ≠ 1 → k ≠ 12 → wB1 k = wB k := fun k h1 h2 => by rw [hu1]; funext q; simp [up, h1, h2]
      have b12 : ∀ q, q ≠ f → wB1 12 q = wB 12 q := fun q h => by rw [hu1]; simp [up, h]
      have b12f : wB1 12 f = 1 := by rw [hu1]; simp [up]
      have b1 : ∀ k, k ≠ 0 → wB1 1 k = wB 1 k := fun k h => by rw [hu1]; simp [up, h]
      have b10 : wB1 1 0 = 0 := by rw [hu1]; simp [up]
      have hFac : IFac nF wA1 wB1 := by
        obtain ⟨f1, f2, f3, f4⟩ := i2
        refine ⟨⟨a70, h24, fun j hj => ?_⟩, ⟨by rw [b1 7 (by omega)]; exact n7B, h24, fun j hj => ?_⟩, fun j hj => ?_, ?_⟩
        · obtain ⟨r, k, y1, y2, y3, y4, y5, y6⟩ := f1.2.2 j hj
          exact ⟨r, k, by rw [aO 8 (by omega) (by omega)]; exact y1, y2, by rw [aO 3 (by omega) (by omega)]; exact y3, by rw [aO 9 (by omega) (by omega)]; exact y4, y5, (Vc_3 (aO 3 (by omega) (by omega))).mpr y6⟩
        · obtain ⟨r, k, y1, y2, y3, y4, y5, y6⟩ := f2.2.2 j hj
          exact ⟨r, k, by rw [bO 7 (by omega) (by omega)]; exact y1, y2, by rw [bO 3 (by omega) (by omega)]; exact y3, by rw [bO 8 (by omega) (by omega)]; exact y4, y5, (Vc_3 (bO 3 (by omega) (by omega))).mpr y6⟩
        · obtain ⟨z1, z2, z3, z4, z5, z6⟩ := f3 j hj
          rw [aO 8 (by omega) (by omega), aO 9 (by omega) (by omega), aO 10 (by omega) (by omega), aO 11 (by omega) (by omega), aO 12 (by omega) (by omega), bO 7 (by omega) (by omega), bO 8 (by omega) (by omega), bO 9 (by omega) (by omega), bO 10 (by omega) (by omega), bO 11 (by omega) (by omega)]
          refine ⟨z1, z2, z3, z4, ?_⟩
          by_cases q : j = f
          · subst q
            rw [a13f, b12f]
            exact ⟨rfl, Or.inr rfl⟩
          · rw [a13 j q, b12 j q]
            exact ⟨z5, z6⟩
        · have := cnt_off (P := fun f => decide (wA 13 f = 0)) (Q := fun f => decide (wA1 13 f = 0)) (f := f) (by simpa using q13) (by show decide (wA1 13 f = 0) = false; rw [a13f]; rfl) (fun i hi => by show decide (wA1 13 i = 0) = decide (wA 13 i = 0); rw [a13 i hi]) nF hf
          rw [a71, f4]
          omega
      have hL := hI.low
      have hL1 : Low nF m d now top L wA1 wB1 := Low_fac (fun k _ h => aO k (by omega) (by omega)) (fun k h1 h2 h3 => bO k (by omega) (by omega)) (fun k hk => b1 k (by omega)) hL hFac
      have hr1 : IRef g wA1 := ⟨i8.1, i8.2.1, by rw [aO 108 (by omega) (by omega), aO 109 (by omega) (by omega)]; exact i8.2.2⟩
      have hV1 : VV (wA1 104) := by rw [aO 104 (by omega) (by omega)]; exact i10
      have hVB1 : VB wB1 := VB_congr (bO 23 (by omega) (by omega)) (bO 24 (by omega) (by omega)) i11
      have hRr : RrA m wA1 = RrA m wA := RrA_fac hm (fun k h1 h2 => aO k (by omega) (by omega))
      obtain ⟨fr, hfr⟩ : ∃ n : Nat, wA 11 f = (n : Int) := ⟨(wA 11 f).toNat, by omega⟩
      obtain ⟨to, hto⟩ : ∃ n : Nat, wA 12 f = (n : Int) := ⟨(wA 12 f).toNat, by omega⟩
      obtain ⟨w', v, u', p1, p2, p3, p4, p5, p6, p7⟩ := both_new (a := fr) (b := to) hL1 hr1 hV1 hVB1 (by omega) (by omega) (fun h h4 hn => by
        have hg := i8.rng (i := h) (by omega)
        refine HAt_g (nF' := nF) (m' := m) (w' := wA1) ((i9 h h4).A.1).t (fun k h1 h2 => aO k (by omega) (by omega)) (fun k h1 h2 => aO k (by omega) (by omega)) (fun r k => ?_) (by rw [hRr]; exact RS.refl)
        unfold FFA FaC
        rw [aO 8 (by omega) (by omega), aO 9 (by omega) (by omega), aO 11 (by omega) (by omega), aO 12 (by omega) (by omega)]
        refine exists_congr fun j => and_congr_right fun hj => and_congr ?_ Iff.rfl
        by_cases q : j = f
        · subst q
          rw [hfr, hto]
          exact ⟨fun z => absurd ⟨Int.ofNat_le.mp z.2.1, Int.ofNat_le.mp z.2.2.1⟩ hn, fun z => absurd ⟨Int.ofNat_le.mp z.2.1, Int.ofNat_le.mp z.2.2.1⟩ hn⟩
        · rw [a13 j q])
      have hset : f_Fa_setDropped wA (f : Int) 1 = some wA1 := by
        unfold f_Fa_setDropped f_Fa_setDropped_39
        have e : up wA 13 f 1 7 1 = wA 7 1 := by simp [up]
        rw [hisf, bnd_s, if_neg z10, gd_t ⟨by omega, by omega⟩, Int.toNat_natCast, q13, if_neg (by decide), gd_t ⟨by omega, by omega⟩, gd_t (Or.inr rfl), bl_s, if_neg z10, e, bl_s, wr_of (x := wA 7 1 + (-1)) ⟨by omega, by omega⟩, hw1]
        rfl
      have hfrom : f_Fa_fromOf wA1 (f : Int) = some (fr : Int) := by
        unfold f_Fa_fromOf
        rw [isFact_n a70 h24 hf, bnd_s, if_neg z10, gd_t ⟨by omega, by omega⟩, Int.toNat_natCast, aO 11 (by omega) (by omega), hfr]
      have htoo : f_Fa_toOf wA1 (f : Int) = some (to : Int) := by
        unfold f_Fa_toOf
        rw [isFact_n a70 h24 hf, bnd_s, if_neg z10, gd_t ⟨by omega, by omega⟩, Int.toNat_natCast, aO 12 (by omega) (by omega), hto]
      have hArun : f_Dm_drop wA (f : Int) = if v = 0 then (bnd (f_Fa_setDropped w' (f : Int) 0) fun v27 => some (v27, 3, 0)) else some (w', 0, w' 7 1) := by
        rw [hA0, if_pos q13, hset, bnd_s, hfrom, bnd_s, htoo, bnd_s, p1, bnd_s]
      have hBrun : f_Re_drop wB (f : Int) = if v = 0 then (bl (up u' 12 f 0) fun w14 => bnd (f_Re_buildAll w14 ) fun v16 => bnd (f_Re_refused v16.1 2) fun v19 => some (v19.1, 0)) else f_Re_drop_82 u' 0 0 := by
        rw [hB0, if_pos q13]
        unfold f_Re_drop_35
        rw [refused_n, bnd_s]
        show (if (if (0 : Int) = 0 then (0 : Int) else 1) = 0 then _ else _) = _
        rw [if_pos (if_pos rfl), gd_t ⟨by omega, by omega⟩, bl_s, Int.toNat_natCast]
        show bnd (f_Re_buildAll (up (up wB 1 0 0) 12 f 1)) _ = _
        rw [← hu1, p2, bnd_s, gd_t ⟨by omega, by omega⟩]
      have u10 : u' 1 0 = 0 := by rw [p3.f (by omega) (by omega)]; exact b10
      rcases p7 with ⟨hv1, g', hInv⟩ | ⟨hv0, hF1⟩
      · have j2 := hInv.2.1
        have hval : w' 7 1 = ((cnt (fun f => decide (u' 12 f = 0)) nF : Nat) : Int) := by
          rw [j2.2.2.2, cnt_congr (P := fun f => decide (w' 13 f = 0)) (Q := fun f => decide (u' 12 f = 0)) (fun i hi => by show decide (w' 13 i = 0) = decide (u' 12 i = 0); rw [(j2.2.2.1 i hi).2.2.2.2.1])]
        refine ⟨(w', 0, w' 7 1), (u', w' 7 1), ?_, ?_, ?_, Or.inl rfl, fun _ => rfl, ⟨nF, m, d, now, top, L, g', hInv⟩, ky_of hI hInv (by omega) (by omega) (by omega) ((p6 3 (by omega)).trans (aO 3 (by omega) (by omega))), Dk.of ((p6 94 (by omega)).trans (aO 94 (by omega) (by omega))) ((p6 95 (by omega)).trans (aO 95 (by omega) (by omega)))⟩
        · rw [hArun, hv1, if_neg z10]
        · rw [hBrun, hv1, if_neg z10, dropB_n j2.2.1.1 h24, hval]
        · unfold f_Re_thrown
          show some (u' 1 0) = _
          rw [u10]
          rfl
      · obtain ⟨wA2, hw2⟩ : ∃ w, w = up (up w' 13 f 0) 7 1 (wA 7 1) := ⟨_, rfl⟩
        obtain ⟨wB2, hu2⟩ : ∃ w, w = up u' 12 f 0 := ⟨_, rfl⟩
        have a2 : ∀ k, k ≠ 7 → k ≠ 13 → wA2 k = w' k := fun k h1 h2 => by rw [hw2]; funext q; simp [up, h1, h2]
        have a2o : ∀ k, k < 98 → wA2 k = wA k := fun k hk => by
          by_cases q7 : k = 7
          · subst q7
            funext q
            by_cases e : q = 1
            · subst e; rw [hw2]; simp [up]
            · have e1 : wA2 7 q = w' 7 q := by rw [hw2]; simp [up, e]
              have e2 : wA1 7 q = wA 7 q := by rw [hw1]; simp [up, e]
              rw [e1, p6 7 (by omega), e2]
          · by_cases q13' : k = 13
            · subst q13'
              funext q
              by_cases e : q = f
              · subst e; rw [q13, hw2]; simp [up]
              · have e1 : wA2 13 q = w' 13 q := by rw [hw2]; simp [up, e]
                rw [e1, p6 13 (by omega), a13 q e]
            · rw [a2 k q7 q13', p6 k (by omega), aO k q7 q13']
        have b2 : ∀ k, k ≠ 12 → wB2 k = u' k := fun k hk => by rw [hu2]; funext q; simp [up, hk]
        have b2o : ∀ k, 2 ≤ k → k < 20 → wB2 k = wB k := fun k h1 h2 => by
          by_cases q : k = 12
          · subst q
            funext j
            by_cases e : j = f
            · subst e; rw [k7, q13, hu2]; simp [up]
            · have e1 : wB2 12 j = u' 12 j := by rw [hu2]; simp [up, e]
              rw [e1, p3.cell (by omega) (by omega), b12 j e]
          · rw [b2 k q, p3.cell (by omega) (by omega), bO k (by omega) q]
        have hL2 : Low nF m d now top L wA2 wB2 := Low_congr a2o b2o (fun k hk => by rw [b2 1 (by omega), p3.f (by omega) (by omega), b1 k (by omega)]) hL
        have hr2 : IRef g wA2 := by
          have := hF1.ref hr1
          exact ⟨this.1, this.2.1, by rw [a2 108 (by omega) (by omega), a2 109 (by omega) (by omega)]; exact this.2.2⟩
        obtain ⟨u2, t1, t2, t3⟩ := both_back hL2 hr2 (by rw [a2 104 (by omega) (by omega)]; exact p5) (VB_congr (b2 23 (by omega)) (b2 24 (by omega)) p4) (fun h h4 => by
          have hg := i8.rng (i := h) (by omega)
          refine HAc_g (nF' := nF) (m' := m) (w' := wA2) ((i9 h h4).A.1) (fun k h1 h2 => a2o k (by omega)) (fun k h1 h2 => ?_) (fun r' k' => by rw [FFA_congr a2o]) (by rw [RrA_c hm a2o]; exact RS.refl) (Or.inr ⟨?_, ?_, FCA_c a2o⟩)
          · rw [a2 k (by omega) (by omega), hF1.2.1 h h4 k h1 h2, aO k (by omega) (by omega)]
          · rw [a2 150 (by omega) (by omega), hF1.2.2.2 150 (by omega), aO 150 (by omega) (by omega)]
          · rw [a2 151 (by omega) (by omega), hF1.2.2.2 151 (by omega), aO 151 (by omega) (by omega)])
        refine ⟨(wA2, 3, 0), (up u2 1 0 2, 0), ?_, ?_, thrown_n, Or.inr (Or.inr rfl), fun e => n30 e, ⟨nF, m, d, now, top, L, g, Inv_up10 t3⟩, ky_of hI t3 (by omega) (by omega) (by omega) (a2o 3 (by omega)), Dk.of (a2o 94 (by omega)) (a2o 95 (by omega))⟩
        · have w70 : w' 7 0 = (nF : Int) := by rw [p6 7 (by omega)]; exact a70
          have w71 : w' 7 1 = wA 7 1 - 1 := by rw [p6 7 (by omega)]; exact a71
          have w13 : w' 13 f = 1 := by rw [p6 13 (by omega)]; exact a13f
          rw [hArun, hv0, if_pos rfl]
          unfold f_Fa_setDropped f_Fa_setDropped_39
          have e : up w' 13 f 0 7 1 = wA 7 1 - 1 := by simp [up, w71]
          rw [isFact_n w70 h24 hf, bnd_s, if_neg z10, gd_t ⟨by omega, by omega⟩, Int.toNat_natCast, w13, if_neg (by decide), gd_t ⟨by omega, by omega⟩, gd_t (Or.inl rfl), bl_s, if_pos rfl, e, bl_s, wr_of (x := (wA 7 1 - 1) + 1) ⟨by omega, by omega⟩, show wA 7 1 - 1 + 1 = wA 7 1 by omega, ← hw2, bnd_s]
        · rw [hBrun, hv0, if_pos rfl, bl_s, ← hu2, t1, bnd_s, refused_n, bnd_s]
    · exact no_ve E_drop (E_drop_no (by decide)) (e := 3) (x := 2) (fun e => e = 0 ∨ e = 1 ∨ e = 3) hII (by decide) (by rw [hA0, if_neg q13]) (by rw [hB0, if_neg q13, hno 2 z20]) rfl (Or.inr (Or.inr rfl))
  · refine no_ve E_drop (E_drop_no (by decide)) (e := 1) (x := 1) (fun e => e = 0 ∨ e = 1 ∨ e = 3) hII (by decide) ?_ ?_ rfl (Or.inr (Or.inl rfl))
    · unfold f_Dm_drop
      by_cases q : x1 < 0
      · rw [if_pos q]
      · rw [if_neg q, n7A, if_neg (by omega)]
    · unfold f_Re_drop
      rw [n7B, ewn, inB_n, bnd_s, if_neg q1, if_pos rfl, hno 1 z10]
theorem sn_remove : ∀ {wA wB : World}, II wA wB → ∀ x1 : Int, R32 x1 → ∃ (oA : World × Nat × Int) (oB : World × Int), f_Dm_remove wA x1 = some oA ∧ f_Re_remove wB x1 = some oB ∧ f_Re_thrown oB.1 = some (hmL 1 0 2 oA.2.1) ∧ (oA.2.1 = 0 ∨ oA.2.1 = 1 ∨ oA.2.1 = 3) ∧ (oA.2.1 = 0 → oA.2.2 = oB.2) ∧ II oA.1 oB.1 ∧ E_remove wA oA := by
  intro wA wB hII x1 _
  obtain ⟨nF, m, d, now, top, L, g, hI⟩ := id hII
  obtain ⟨i1, i2, i3, i4, i5, i6, i7, i8, i9, i10, i11⟩ := id hI
  have hm : m ≤ 12 := i3.1.2.2.1
  have nA : wA 14 4 = (m : Int) := i3.1.2.1
  have nB : wB 1 14 = (m : Int) := i3.2.1.1
  have hno : ∀ x : Int, ¬ x = 0 → f_Re_remove_35 wB x1 x = some (up wB 1 0 x, 0) := fun x hx => by
    unfold f_Re_remove_35
    rw [refused_n, bnd_s]
    show (if (if x = 0 then (0 : Int) else 1) = 0 then _ else some (up wB 1 0 x, 0)) = _
    rw [if_neg hx]
    exact if_neg z10
  have ewm : wr ((m : Int) - 1) = (m : Int) - 1 := wr_of (x := (m : Int) - 1) ⟨by omega, by omega⟩
  by_cases q1 : 0 ≤ x1 ∧ x1 ≤ (m : Int) - 1
  · obtain ⟨j, rfl⟩ : ∃ j : Nat, x1 = (j : Int) := ⟨x1.toNat, by omega⟩
    have hj : j < m := by omega
    have hkd : kdA (22 + 4 * j) = 1 := by
      have : ∀ j, j < 12 → kdA (22 + 4 * j) = 1 := by decide +kernel
      exact this j (by omega)
    obtain ⟨k1, k2, k3, k4⟩ := i3.2.2 j hj
    have hrul := rule_n (w := wA) (j := j) (by omega) (i3.1.2.2.2.1 j (by omega))
    have hA0 : f_Dm_remove wA (j : Int) = if wA (22 + 4 * j) 2 = 0 then (bl (up wA (22 + 4 * j) 2 1) fun w13 => bnd (f_Pr_stratify w13 ) fun v15 => if v15.2 = 0 then (f_Dm_remove_72 v15.1 (22 + 4 * j)) else (bnd (f_Dm_renew v15.1 0 3) fun v20 => if v20.2 = 0 then (f_Dm_remove_72 v20.1 (22 + 4 * j)) else (bnd (f_Pr_rulesLeft v20.1 ) fun v25 => some (v20.1, 0, v25)))) else some (wA, 3, 0) := by
      unfold f_Dm_remove f_Pr_hasRule
      rw [if_neg (by omega), nA, if_neg (by omega), bnd_s, if_neg z10, hrul, bnd_s, gd_t hkd]
    have hB0 : f_Re_remove wB (j : Int) = if wA (22 + 4 * j) 2 = 0 then f_Re_remove_35 wB (j : Int) 0 else f_Re_remove_35 wB (j : Int) 2 := by
      unfold f_Re_remove
      rw [nB, ewm, inB_n, bnd_s, if_pos q1, if_neg z10, gd_t ⟨by omega, by omega⟩, Int.toNat_natCast, k2]
    by_cases q0 : wA (22 + 4 * j) 2 = 0
    · obtain ⟨wA1, hw1⟩ : ∃ w, w = up wA (22 + 4 * j) 2 1 := ⟨_, rfl⟩
      obtain ⟨wB1, hu1⟩ : ∃ w, w = up (up wB 1 0 0) 13 j 1 := ⟨_, rfl⟩
      have aO : ∀ c k, ¬ (c = 22 + 4 * j ∧ k = 2) → wA1 c k = wA c k := fun c k h => by rw [hw1]; unfold up; rw [if_neg h]
      have aC : ∀ c, c ≠ 22 + 4 * j → wA1 c = wA c := fun c h => funext fun k => aO c k (fun z => h z.1)
      have bO : ∀ c k, ¬ (c = 13 ∧ k = j) → ¬ (c = 1 ∧ k = 0) → wB1 c k = wB c k := fun c k h1 h2 => by rw [hu1]; unfold up; rw [if_neg h1, if_neg h2]
      have bC : ∀ c, c ≠ 13 → c ≠ 1 → wB1 c = wB c := fun c h1 h2 => funext fun k => bO c k (fun z => h1 z.1) (fun z => h2 z.1)
      have ax : wA1 (22 + 4 * j) 2 = 1 := by rw [hw1]; simp [up]
      have bx : wB1 13 j = 1 := by rw [hu1]; simp [up]
      have b10 : wB1 1 0 = 0 := by rw [hu1]; simp [up]
      have hL := hI.low
      have hR1 : LowR nF m d now wA1 wB1 := LowR_flag hj (Or.inr rfl) aO ax bO bx hL.R
      obtain ⟨ws, v, L1, top1, us, s1, s2, s3, s4, s5, s6⟩ := both_strata hR1
      have hsub : SolL (SA wA1) (RrA m wA1) (lvf L) := by
        have hSA : SA wA1 = SA wA := SA_c5 (fun c a b => aC c (by omega))
        rw [hSA]
        rintro R ⟨i, hi, hg, rfl⟩
        have hg : wA1 (22 + 4 * i) 2 = 0 := hg
        have hne : i ≠ j := fun e => by rw [e, ax] at hg; exact absurd hg (by decide)
        have e : FA wA1 i = FA wA i := flag_RB (by omega) aO
        rw [e]
        exact i7.2.2.2.1 _ ⟨i, hi, by show wA (22 + 4 * i) 2 = 0; rw [← aO _ 2 (by omega)]; exact hg, rfl⟩
      obtain ⟨hv, -⟩ := s5.one hsub (fun q hq => by have := i7.1.2.2.1 q hq; have := i7.2.2.1; omega)
      subst hv
      have hL1 := s6 rfl
      have sC : ∀ c, c ≠ 21 → c ≠ 14 → ws c = wA1 c := fun c h1 h2 => s3.cell h1 h2
      have hrs : IRef g ws := ⟨i8.1, i8.2.1, by rw [sC 108 (by omega) (by omega), sC 109 (by omega) (by omega), aC 108 (by omega), aC 109 (by omega)]; exact i8.2.2⟩
      obtain ⟨w', v, u', p1, p2, p3, p4, p5, p6, p7⟩ := both_new (a := 0) (b := 3) hL1 hrs (by rw [sC 104 (by omega) (by omega), aC 104 (by omega)]; exact i10) (VB_congr (by rw [s4 23 (by omega), bC 23 (by omega) (by omega)]) (by rw [s4 24 (by omega), bC 24 (by omega) (by omega)]) i11) (by omega) (by omega) (fun h h4 hn => absurd ⟨by omega, by omega⟩ hn)
      have p1 : f_Dm_renew ws 0 3 = some (w', v) := p1
      have hArun : f_Dm_remove wA (j : Int) = if v = 0 then (f_Dm_remove_72 w' (22 + 4 * j)) else (bnd (f_Pr_rulesLeft w') fun v25 => some (w', 0, v25)) := by
        rw [hA0, if_pos q0, bl_s, ← hw1, s1, bnd_s, if_neg z10, p1, bnd_s]
      have hBrun : f_Re_remove wB (j : Int) = if v = 0 then (bl (up u' 13 j 0) fun w17 => bnd (f_Re_layer w17 ) fun v19 => bnd (f_Re_buildAll v19.1 ) fun v22 => bnd (f_Re_refused v22.1 2) fun v25 => some (v25.1, 0)) else f_Re_remove_92 u' 0 0 := by
        rw [hB0, if_pos q0]
        unfold f_Re_remove_35
        rw [refused_n, bnd_s]
        show (if (if (0 : Int) = 0 then (0 : Int) else 1) = 0 then _ else _) = _
        rw [if_pos (if_pos rfl), gd_t ⟨by omega, by omega⟩, bl_s, Int.toNat_natCast]
        show bnd (f_Re_layer (up (up wB 1 0 0) 13 j 1)) _ = _
        rw [← hu1, s2, bnd_s, p2, bnd_s, gd_t ⟨by omega, by omega⟩]
      have u10 : u' 1 0 = 0 := by rw [p3.f (by omega) (by omega), s4 1 (by omega)]; exact b10
      rcases p7 with ⟨hv1, g', hInv⟩ | ⟨hv0, hF1⟩
      · have j3 := hInv.2.2.1
        have hval : ((cnt (fun i => decide (w' (22 + 4 * i) 2 = 0)) m : Nat) : Int) = ((cnt (fun i => decide (u' 13 i = 0)) m : Nat) : Int) := by
          rw [cnt_congr (P := fun i => decide (w' (22 + 4 * i) 2 = 0)) (Q := fun i => decide (u' 13 i = 0)) (fun i hi => by show decide (w' (22 + 4 * i) 2 = 0) = decide (u' 13 i = 0); rw [(j3.2.2 i hi).2.1])]
        refine ⟨(w', 0, ((cnt (fun i => decide (w' (22 + 4 * i) 2 = 0)) m : Nat) : Int)), (u', ((cnt (fun i => decide (w' (22 + 4 * i) 2 = 0)) m : Nat) : Int)), ?_, ?_, ?_, Or.inl rfl, fun _ => rfl, ⟨nF, m, d, now, top1, L1, g', hInv⟩, ky_of hI hInv (by omega) (by omega) (by omega) ((p6 3 (by omega)).trans ((sC 3 (by omega) (by omega)).trans (aC 3 (by omega)))), Dk.of ((p6 94 (by omega)).trans ((sC 94 (by omega) (by omega)).trans (aC 94 (by omega)))) ((p6 95 (by omega)).trans ((sC 95 (by omega) (by omega)).trans (aC 95 (by omega))))⟩
        · rw [hArun, hv1, if_neg z10, left_n j3.1.2.1 hm j3.1.2.2.2.1, bnd_s]
        · rw [hBrun, hv1, if_neg z10, leftB_n j3.2.1.1 hm, hval]
        · unfold f_Re_thrown
          show some (u' 1 0) = _
          rw [u10]
          rfl
      · obtain ⟨wA2, hw2⟩ : ∃ w, w = up w' (22 + 4 * j) 2 0 := ⟨_, rfl⟩
        obtain ⟨wB2, hu2⟩ : ∃ w, w = up u' 13 j 0 := ⟨_, rfl⟩
        have hLw : Low nF m d now top1 L1 w' u' := Low_congr (fun c hc => p6 c (by omega)) (fun c h1 h2 => p3.cell (by omega) (by omega)) (fun k hk => p3.f (by omega) (by omega)) hL1
        have a2O : ∀ c k, ¬ (c = 22 + 4 * j ∧ k = 2) → wA2 c k = w' c k := fun c k h => by rw [hw2]; unfold up; rw [if_neg h]
        have a2C : ∀ c, c ≠ 22 + 4 * j → wA2 c = w' c := fun c h => funext fun k => a2O c k (fun z => h z.1)
        have a2x : wA2 (22 + 4 * j) 2 = 0 := by rw [hw2]; simp [up]
        have b2O : ∀ c k, ¬ (c = 13 ∧ k = j) → ¬ (c = 1 ∧ k = 0) → wB2 c k = u' c k := fun c k h1 _ => by rw [hu2]; unfold up; rw [if_neg h1]
        have b2x : wB2 13 j = 0 := by rw [hu2]; simp [up]
        have hR2 : LowR nF m d now wA2 wB2 := LowR_flag hj (Or.inl rfl) a2O a2x b2O b2x hLw.R
        have all : ∀ c, c < 98 → c ≠ 21 → c ≠ 14 → wA2 c = wA c := fun c h1 h2 h3 => by
          funext k
          by_cases q : c = 22 + 4 * j ∧ k = 2
          · obtain ⟨rfl, rfl⟩ := q
            rw [a2x, q0]
          · rw [a2O c k q, p6 c (by omega), sC c h2 h3, aO c k q]
        have hRr2 : RrA m wA2 = RrA m wA := RrA_22 hm (fun c h1 h2 => all c h2 (by omega) (by omega))
        have hr2 : IRef g wA2 := by
          have := hF1.ref hrs
          exact ⟨this.1, this.2.1, by rw [a2C 108 (by omega), a2C 109 (by omega)]; exact this.2.2⟩
        have b2C : ∀ c, c ≠ 13 → wB2 c = u' c := fun c h => by rw [hu2]; funext k; simp [up, h]
        obtain ⟨w3, v3, u3, u4, top3, L3, t1, t2, t3, t4⟩ := both_again hL hR2 hRr2 (SA_c5 (fun c a b => all c (by omega) (by omega) (by omega))) hr2 (by rw [a2C 104 (by omega)]; exact p5) (VB_congr (b2C 23 (by omega)) (b2C 24 (by omega)) p4) (fun h h4 => by
          have hg := i8.rng (i := h) (by omega)
          refine HAc_g (nF' := nF) (m' := m) (w' := wA2) ((i9 h h4).A.1) (fun k h1 h2 => all k (by omega) (by omega) (by omega)) (fun k h1 h2 => ?_) (fun r' k' => ?_) (by rw [hRr2]; exact RS.refl) (Or.inr ⟨?_, ?_, ?_⟩)
          · rw [a2C k (by omega), hF1.2.1 h h4 k h1 h2, sC k (by omega) (by omega), aC k (by omega)]
          · unfold FFA FaC
            rw [all 8 (by omega) (by omega) (by omega), all 9 (by omega) (by omega) (by omega), all 11 (by omega) (by omega) (by omega), all 12 (by omega) (by omega) (by omega), all 13 (by omega) (by omega) (by omega)]
          · rw [a2C 150 (by omega), hF1.2.2.2 150 (by omega), sC 150 (by omega) (by omega), aC 150 (by omega)]
          · rw [a2C 151 (by omega), hF1.2.2.2 151 (by omega), sC 151 (by omega) (by omega), aC 151 (by omega)]
          · unfold FCA FaC
            rw [all 8 (by omega) (by omega) (by omega), all 9 (by omega) (by omega) (by omega), all 10 (by omega) (by omega) (by omega), all 11 (by omega) (by omega) (by omega), all 12 (by omega) (by omega) (by omega), all 13 (by omega) (by omega) (by omega)])
        refine ⟨(w3, 3, 0), (up u4 1 0 2, 0), ?_, ?_, thrown_n, Or.inr (Or.inr rfl), fun e => n30 e, ⟨nF, m, d, now, top3, L3, g, Inv_up10 t4⟩, ky_of hI t4 (by omega) (by omega) (by omega) (((strat_fr hR2.2.2.1.1 t1).cell (by decide) (by decide)).trans (all 3 (by omega) (by omega) (by omega))), Dk.of (((strat_fr hR2.2.2.1.1 t1).cell (by decide) (by decide)).trans (all 94 (by omega) (by omega) (by omega))) (((strat_fr hR2.2.2.1.1 t1).cell (by decide) (by decide)).trans (all 95 (by omega) (by omega) (by omega)))⟩
        · rw [hArun, hv0, if_pos rfl]
          unfold f_Dm_remove_72
          rw [bl_s, ← hw2, t1, bnd_s]
        · rw [hBrun, hv0, if_pos rfl, bl_s, ← hu2, t2, bnd_s, t3, bnd_s, refused_n, bnd_s]
    · exact no_ve E_remove (E_remove_no (by decide)) (e := 3) (x := 2) (fun e => e = 0 ∨ e = 1 ∨ e = 3) hII (by decide) (by rw [hA0, if_neg q0]) (by rw [hB0, if_neg q0, hno 2 z20]) rfl (Or.inr (Or.inr rfl))
  · refine no_ve E_remove (E_remove_no (by decide)) (e := 1) (x := 1) (fun e => e = 0 ∨ e = 1 ∨ e = 3) hII (by decide) ?_ ?_ rfl (Or.inr (Or.inl rfl))
    · unfold f_Dm_remove f_Pr_hasRule
      by_cases q : x1 < 0
      · rw [if_pos q, bnd_s, if_pos rfl]
      · rw [if_neg q, nA, if_pos (by omega), bnd_s, if_pos rfl]
    · unfold f_Re_remove
      rw [nB, ewm, inB_n, bnd_s, if_neg q1, if_pos rfl, hno 1 z10]
theorem sn_enter : ∀ {wA wB : World}, II wA wB → ∃ (oA : World × Nat × Int) (oB : World × Int), f_Dm_enter wA = some oA ∧ f_Re_enter wB = some oB ∧ f_Re_thrown oB.1 = some (hmL 0 1 2 oA.2.1) ∧ (oA.2.1 = 0 ∨ oA.2.1 = 2 ∨ oA.2.1 = 3) ∧ (oA.2.1 = 0 → oA.2.2 = oB.2) ∧ II oA.1 oB.1 ∧ E_enter wA oA := by
  intro wA wB hII
  obtain ⟨nF, m, d, now, top, L, g, hI⟩ := id hII
  obtain ⟨n, hn5, hnA, hnB, hlA, hlB⟩ := drf_n hI
  obtain ⟨i1, i2, i3, i4, i5, i6, i7, i8, i9, i10, i11⟩ := id hI
  obtain ⟨e1, e2, e3, e4, e5, e6⟩ := id i5
  have hm : m ≤ 12 := i3.1.2.2.1
  have nA : wA 14 4 = (m : Int) := i3.1.2.1
  have nB : wB 1 14 = (m : Int) := i3.2.1.1
  have hno : ∀ x : Int, ¬ x = 0 → f_Re_enter_50 wB x = some (up wB 1 0 x, 0) := fun x hx => by
    unfold f_Re_enter_50
    rw [refused_n, bnd_s]
    show (if (if x = 0 then (0 : Int) else 1) = 0 then _ else some (up wB 1 0 x, 0)) = _
    rw [if_neg hx]
    exact if_neg z10
  have h25 : f_Re_enter_25 wB = some (up wB 1 0 1, 0) := by
    unfold f_Re_enter_25 f_Re_enter_26
    rw [if_pos rfl, hno 1 z10]
  rcases e6 with hnil | ⟨⟨r, hr, htg, hd, hzz⟩, hht⟩
  · refine no_ve E_enter (E_enter_no (by decide)) (e := 2) (x := 1) (fun e => e = 0 ∨ e = 2 ∨ e = 3) hII (by decide) ?_ ?_ rfl (Or.inr (Or.inl rfl))
    · unfold f_Dm_enter
      rw [hnil, if_pos rfl]
    · unfold f_Re_enter
      rw [e5, hnil, if_pos rfl, h25]
  have hRE : RE (RB wA 94) (RBB wB 18) := ⟨e3.1, e3.2, by show wB 14 18 = wA 94 1; exact e5, fun c hc => (hht c hc).1⟩
  have hwfA : WfR (SA wA) (RB wA 94) := by
    obtain ⟨w1, w2, w3, w4, w5⟩ := e1.2
    have etg : (RB wA 94).tg = (r : Int) := htg
    refine ⟨w1, w2, w3, w4, ⟨?_, fun c hc h3 => ?_⟩, w5, fun c hc => (hht c hc).2⟩
    · rw [etg, SA_co hr]; omega
    · rw [etg, SA_co hr] at hc
      exact hzz c h3 (by omega)
  obtain ⟨sv, hsv, hsv2⟩ := isSafeA_n e1.1 e1.2 (fun c hc => (hht c hc).2)
  obtain ⟨bv, hbv, hbv2⟩ := isSafeB_n (x2 := 1) e2 (fun _ => ⟨⟨r, hr, by show wB 14 18 = (r : Int); rw [e5]; exact htg, fun c h1 h2 => by rw [(hht c h2).1]; exact hzz c h2 (by rw [(i1.2 r hr).1] at h1; exact h1)⟩, fun c hc => by rw [(hht c hc).1]; exact (hht c hc).2⟩)
  have hbv : f_Re_isSafe wB 18 1 = some bv := hbv
  have n1 : ¬ wA 94 1 = -1 := by rw [htg]; omega
  by_cases qs : SafeL (RB wA 94) ∧ SafeH (RB wA 94)
  · have hs1 : sv = 1 := by
      rcases hsv2 with ⟨z, -⟩ | ⟨-, z⟩
      · exact z
      · exact absurd qs z
    have hb1 : bv = 1 := by
      rcases hbv2 with ⟨z, -⟩ | ⟨-, z⟩
      · exact z
      · exact absurd ⟨e3.safeL.mp qs.1, fun _ => hRE.safeH qs.2⟩ z
    subst hs1
    subst hb1
    have hA0 : f_Dm_enter wA = if (m : Int) < 12 then (bnd (f_Pr_append wA 94) fun v13 => bnd (f_Pr_stratify v13 ) fun v16 => if v16.2 = 0 then (f_Dm_enter_83 v16.1) else (bnd (f_Dm_renew v16.1 0 3) fun v21 => if v21.2 = 0 then (f_Dm_enter_83 v21.1) else (bnd (f_Bo_empty v21.1 94) fun v26 => some (v26, 0, wr ((v26 14 4) - 1))))) else some (wA, 3, 0) := by
      unfold f_Dm_enter
      rw [if_neg n1, hsv, bnd_s, if_neg z10, nA]
    have hB0 : f_Re_enter wB = if (m : Int) = 12 then f_Re_enter_50 wB 2 else f_Re_enter_50 wB 0 := by
      unfold f_Re_enter f_Re_enter_26
      rw [e5, if_neg n1, hbv, bnd_s, if_neg z10, if_neg z10, nB]
    by_cases q12 : m = 12
    · exact no_ve E_enter (E_enter_no (by decide)) (e := 3) (x := 2) (fun e => e = 0 ∨ e = 2 ∨ e = 3) hII (by decide) (by rw [hA0, if_neg (by omega)]) (by rw [hB0, if_pos (by omega), hno 2 z20]) rfl (Or.inr (Or.inr rfl))
    have hm12 : m < 12 := by omega
    -- the class's row
    obtain ⟨wc, a1, a2, a3, a4, a5⟩ := copyA_n (w := wA) (b := 22 + 4 * m) (s := 94) (n := n) (by omega) hnA hn5
    have hkd : kdA (22 + 4 * m) = 1 := by
      have : ∀ j, j < 12 → kdA (22 + 4 * j) = 1 := by decide +kernel
      exact this m hm12
    have em1 : wr ((m : Int) + 1) = ((m + 1 : Nat) : Int) := by rw [wr_of (x := (m : Int) + 1) ⟨by omega, by omega⟩]; omega
    have em2 : wr (((m + 1 : Nat) : Int) - 1) = (m : Int) := by rw [wr_of (x := ((m + 1 : Nat) : Int) - 1) ⟨by omega, by omega⟩]; omega
    obtain ⟨wA1, hw1⟩ : ∃ w, w = up wc 14 4 ((m + 1 : Nat) : Int) := ⟨_, rfl⟩
    have happ : f_Pr_append wA 94 = some wA1 := by
      unfold f_Pr_append
      rw [nA, rule_n (by omega) (i3.1.2.2.2.1 m hm12), bnd_s, gd_t hkd, a1, bnd_s]
      have : wc 14 4 = (m : Int) := by rw [a2 14 (by omega)]; exact nA
      rw [this, em1, bl_s, ← hw1]
    have fA : ∀ c, c ≠ 14 → (c < 22 + 4 * m ∨ 22 + 4 * m + 3 < c) → wA1 c = wA c := fun c h1 h2 => by
      rw [← a2 c h2, hw1]
      funext k
      simp [up, h1]
    have fAc : ∀ c, c ≠ 14 → wA1 c = wc c := fun c h1 => by
      rw [hw1]
      funext k
      simp [up, h1]
    have fA14 : ∀ k, k ≠ 4 → wA1 14 k = wA 14 k := fun k h => by
      rw [hw1, ← a2 14 (by omega)]
      simp [up, h]
    have fA4 : wA1 14 4 = ((m + 1 : Nat) : Int) := by rw [hw1]; simp [up]
    have hRBn : RB wA1 (22 + 4 * m) = RB wc (22 + 4 * m) := RB_congr (fAc _ (by omega)) (fAc _ (by omega)) (fAc _ (by omega)) (fAc _ (by omega))
    have reA : RE (RB wA 94) (RB wA1 (22 + 4 * m)) := by rw [hRBn]; exact a3
    have hSA1 : SA wA1 = SA wA := SA_c5 (fun c a b => fA c (by omega) (by omega))
    have flA : wA1 (22 + 4 * m) 2 = 0 := by rw [fAc _ (by omega)]; exact a5
    have hlnA : (RB wA1 (22 + 4 * m)).ln = n := by rw [reA.1, hlA]
    have hnewA : RuA wA1 (22 + 4 * m) := by
      refine ⟨by rw [hlnA, fAc _ (by omega)]; exact a4, ?_, r, hr, ?_⟩
      · rw [hSA1]; exact reA.wf hwfA
      · rw [reA.2.2.1]; exact htg
    -- the reference's row
    obtain ⟨u0, hu0⟩ : ∃ u, u = up wB 1 0 0 := ⟨_, rfl⟩
    have u0f : ∀ c, c ≠ 1 → u0 c = wB c := fun c hc => by rw [hu0]; exact up10 hc
    have hRu : RBB u0 18 = RBB wB 18 := RBB_congr (fun c a b => u0f c (by omega)) 18
    have u14 : u0 1 14 = (m : Int) := by rw [hu0, up10_f (by decide)]; exact nB
    obtain ⟨uc, b1, b2, b3, b4⟩ := copyB_n (w := u0) (ru := m) (by omega) (by rw [hRu, hlB]; exact hn5)
    rw [hRu] at b3
    have uc14 : uc 1 14 = (m : Int) := by rw [b2 1 14 (by omega)]; exact u14
    obtain ⟨wB1, hu1⟩ : ∃ w, w = up (up uc 13 m 0) 1 14 ((m + 1 : Nat) : Int) := ⟨_, rfl⟩
    have fBc : ∀ c, c ≠ 1 → c ≠ 13 → wB1 c = uc c := fun c h1 h2 => by rw [hu1]; funext k; simp [up, h1, h2]
    have fB : ∀ c, c ≠ 1 → c ≠ 13 → (c < 14 ∨ 19 < c) → wB1 c = wB c := fun c h1 h2 h3 => by
      rw [fBc c h1 h2, ← u0f c h1]
      funext k
      exact b2 c k (by omega)
    have fB13 : ∀ k, k ≠ m → wB1 13 k = wB 13 k := fun k h => by
      have : wB1 13 k = uc 13 k := by rw [hu1]; simp [up, h]
      rw [this, b2 13 k (by omega), u0f 13 (by omega)]
    have fB13m : wB1 13 m = 0 := by rw [hu1]; simp [up]
    have fB1 : ∀ k, k ≠ 0 → k ≠ 14 → wB1 1 k = wB 1 k := fun k h1 h2 => by
      have : wB1 1 k = uc 1 k := by rw [hu1]; simp [up, h2]
      rw [this, b2 1 k (by omega), hu0, up10_f h1]
    have fB14 : wB1 1 14 = ((m + 1 : Nat) : Int) := by rw [hu1]; simp [up]
    have fB10 : wB1 1 0 = 0 := by
      have : wB1 1 0 = uc 1 0 := by rw [hu1]; simp [up]
      rw [this, b2 1 0 (by omega), hu0]; simp [up]
    have hRBBc : ∀ j, RBB wB1 j = RBB uc j := fun j => RBB_congr (fun c a b => fBc c (by omega) (by omega)) j
    have reB : RE (RBB wB 18) (RBB wB1 m) := by rw [hRBBc]; exact b3
    have hSB1 : SA wB1 = SA wB := SA_c5 (fun c a b => fB c (by omega) (by omega) (by omega))
    have hRow : ∀ ru, ru ≠ m → ru < 19 → (RBB wB ru).ln ≤ 5 → RE (RBB wB ru) (RBB wB1 ru) ∧ wB1 16 ru = wB 16 ru := fun ru h1 h2 h5 => by
      have e : ∀ c k, c ≠ 1 → u0 c k = wB c k := fun c k hc => by rw [u0f c hc]
      rw [hRBBc]
      have e16 : uc 16 ru = wB 16 ru := by rw [b2 16 ru (by omega), e 16 _ (by decide)]
      refine ⟨⟨?_, fun p hp => ⟨?_, ?_, fun c hc => ?_⟩, ?_, fun c hc => ?_⟩, by rw [fBc 16 (by omega) (by omega)]; exact e16⟩
      · show (uc 16 ru).toNat = (wB 16 ru).toNat
        rw [e16]
      · show uc 17 (5 * ru + p) = wB 17 (5 * ru + p)
        rw [b2 17 _ (by omega), e 17 _ (by decide)]
      · show uc 18 (5 * ru + p) = wB 18 (5 * ru + p)
        rw [b2 18 _ (by omega), e 18 _ (by decide)]
      · show uc 19 (3 * (5 * ru + p) + c) = wB 19 (3 * (5 * ru + p) + c)
        rw [b2 19 _ (by omega), e 19 _ (by decide)]
      · show uc 14 ru = wB 14 ru
        rw [b2 14 _ (by omega), e 14 _ (by decide)]
      · show uc 15 (3 * ru + c) = wB 15 (3 * ru + c)
        rw [b2 15 _ (by omega), e 15 _ (by decide)]
    have hnewB : RuB wB1 m ∧ Rng (RBB wB1 m) := by
      have hrA : Rng (RB wA1 (22 + 4 * m)) := hnewA.rng
      refine ⟨⟨by omega, WfT_congr (fun c a b => fB c (by omega) (by omega) (by omega)) i1.T, ?_, ?_⟩, Rng_E (reA.symm.trans (hRE.trans reB)) hrA⟩
      · rw [fBc 16 (by omega) (by omega), b4, u0f 16 (by omega), reB.1, hlB]
        exact hnB
      · rw [hSB1, i1.SA]
        exact (hRE.trans reB).wf hwfA
    have hL := hI.low
    have hR1 : LowR nF (m + 1) d now wA1 wB1 := LowR_row hm12 (fun c _ h2 h3 => fA c h2 h3) fA14 fA4 (fun c h1 h2 => fB c (by omega) (by omega) (by omega)) fB13 (fun k hk => fB1 k (by omega) (by omega)) fB14 hRow hnewA hnewB ⟨reA.symm.trans (hRE.trans reB), by rw [flA]; exact fB13m, Or.inl flA, reA.T.safeL.mp qs.1, reA.safeH qs.2, reA.T.few e4⟩ hL.R
    obtain ⟨ws, sv, L1, top1, us, s1, s2, s3, s4, s5, s6⟩ := both_strata hR1
    have sC : ∀ c, c ≠ 21 → c ≠ 14 → ws c = wA1 c := fun c h1 h2 => s3.cell h1 h2
    have hrs : IRef g ws := ⟨i8.1, i8.2.1, by rw [sC 108 (by omega) (by omega), sC 109 (by omega) (by omega), fA 108 (by omega) (by omega), fA 109 (by omega) (by omega)]; exact i8.2.2⟩
    have hVs : VV (ws 104) := by rw [sC 104 (by omega) (by omega), fA 104 (by omega) (by omega)]; exact i10
    have hVBs : VB us := VB_congr (by rw [s4 23 (by omega), fB 23 (by omega) (by omega) (by omega)]) (by rw [s4 24 (by omega), fB 24 (by omega) (by omega) (by omega)]) i11
    have us14 : us 1 14 = ((m + 1 : Nat) : Int) := by rw [s4 1 (by omega)]; exact fB14
    have ws4 : ws 14 4 = ((m + 1 : Nat) : Int) := by rw [s3 14 4 (by decide) (fun z => absurd z.2 (by decide))]; exact fA4
    -- taken back
    have back : ∀ wx ux : World, LowR nF (m + 1) d now wx ux → F1 g ws wx → VV (wx 104) → VB ux → wx 14 4 = ((m + 1 : Nat) : Int) → ux 1 14 = ((m + 1 : Nat) : Int) → ∃ (wf uf : World), f_Dm_enter_83 wx = some (wf, 3, 0) ∧ f_Re_enter_100 ux = some (up uf 1 0 2, 0) ∧ II wf (up uf 1 0 2) ∧ Ky wA wf 0 0 0 ∧ (wf 94 = wx 94 ∧ wf 95 = wx 95) :=
      fun wx ux h1 h2 h3 h4 h5 h6 => enter_backF hI hm12 (fun c a b e => by rw [sC c a b, fA c b e]) hrs h1 h2 h3 h4 h5 h6
    have hArun : f_Dm_enter wA = if sv = 0 then (f_Dm_enter_83 ws) else (bnd (f_Dm_renew ws 0 3) fun v21 => if v21.2 = 0 then (f_Dm_enter_83 v21.1) else (bnd (f_Bo_empty v21.1 94) fun v26 => some (v26, 0, wr ((v26 14 4) - 1)))) := by
      rw [hA0, if_pos (by omega), happ, bnd_s, s1, bnd_s]
    have hBrun : f_Re_enter wB = if sv = 0 then (f_Re_enter_100 us) else (bnd (f_Re_buildAll us ) fun v21 => if v21.2 = 0 then (f_Re_enter_100 v21.1) else (bnd (f_Re_emptyDraft v21.1 ) fun v26 => some (v26, wr ((v26 1 14) - 1)))) := by
      rw [hB0, if_neg (by omega)]
      unfold f_Re_enter_50
      rw [refused_n, bnd_s]
      show (if (if (0 : Int) = 0 then (0 : Int) else 1) = 0 then (bnd (f_Re_copyDraft (up wB 1 0 0) ((up wB 1 0 0) 1 14)) _) else _) = _
      rw [if_pos (if_pos rfl), ← hu0, u14, b1, bnd_s, uc14, gd_t ⟨by omega, by omega⟩, bl_s, Int.toNat_natCast]
      have : up uc 13 m 0 1 14 = (m : Int) := by simp [up, uc14]
      rw [this, em1, bl_s, ← hu1, s2, bnd_s]
    have fin : ∀ wf uf : World, f_Dm_enter wA = some (wf, 3, 0) → f_Re_enter wB = some (up uf 1 0 2, 0) → II wf (up uf 1 0 2) → Ky wA wf 0 0 0 → (wf 94 = wA 94 ∧ wf 95 = wA 95) → ∃ (oA : World × Nat × Int) (oB : World × Int), f_Dm_enter wA = some oA ∧ f_Re_enter wB = some oB ∧ f_Re_thrown oB.1 = some (hmL 0 1 2 oA.2.1) ∧ (oA.2.1 = 0 ∨ oA.2.1 = 2 ∨ oA.2.1 = 3) ∧ (oA.2.1 = 0 → oA.2.2 = oB.2) ∧ II oA.1 oB.1 ∧ E_enter wA oA := fun wf uf h1 h2 h3 h4 h5 =>
      ⟨(wf, 3, 0), (up uf 1 0 2, 0), h1, h2, thrown_n, Or.inr (Or.inr rfl), fun e => n30 e, h3, fun e => n30 e, fun _ => ⟨h4, Dk.of h5.1 h5.2⟩⟩
    by_cases qv : sv = 0
    · obtain ⟨wf, uf, t1, t2, t3, t8, t9⟩ := back ws us (LowR_fr s3 s4 hR1) ⟨fun _ _ => rfl, fun _ _ _ _ _ => rfl, fun _ _ _ => rfl, fun _ _ => rfl⟩ hVs hVBs ws4 us14
      exact fin wf uf (by rw [hArun, if_pos qv, t1]) (by rw [hBrun, if_pos qv, t2]) t3 t8 ⟨t9.1.trans ((sC 94 (by omega) (by omega)).trans (fA 94 (by omega) (by omega))), t9.2.trans ((sC 95 (by omega) (by omega)).trans (fA 95 (by omega) (by omega)))⟩
    · have hsv1 : sv = 1 := by
        rcases s5.2 with ⟨z, -⟩ | ⟨z, -⟩
        · exact z
        · exact absurd z qv
      have hL1 := s6 hsv1
      obtain ⟨w', v, u', p1, p2, p3, p4, p5, p6, p7⟩ := both_new (a := 0) (b := 3) hL1 hrs hVs hVBs (by omega) (by omega) (fun h h4 hn => absurd ⟨by omega, by omega⟩ hn)
      have p1 : f_Dm_renew ws 0 3 = some (w', v) := p1
      have w'4 : w' 14 4 = ((m + 1 : Nat) : Int) := by rw [p6 14 (by omega)]; exact ws4
      have u'14 : u' 1 14 = ((m + 1 : Nat) : Int) := by rw [p3.f (by omega) (by omega)]; exact us14
      rcases p7 with ⟨hv1, g', hInv⟩ | ⟨hv0, hF1⟩
      · refine ⟨(empW w' 94, 0, (m : Int)), (up (up u' 16 18 0) 14 18 (-1), (m : Int)), ?_, ?_, ?_, Or.inl rfl, fun _ => rfl, ⟨nF, m + 1, d, now, top1, L1, g', Inv_nil hInv⟩, fun _ => ⟨ky_of hI (Inv_nil hInv) (by omega) (by omega) (by omega) ((show empW w' 94 3 = w' 3 from empW_far (by omega)).trans ((p6 3 (by omega)).trans ((sC 3 (by omega) (by omega)).trans (fA 3 (by omega) (by omega))))), (show empW w' 94 94 0 = 0 from empW_0), Int.natCast_nonneg _⟩, fun h => absurd rfl h⟩
        · rw [hArun, if_neg qv, p1, bnd_s]
          show (if v = 0 then _ else (bnd (f_Bo_empty w' 94) fun v26 => some (v26, 0, wr ((v26 14 4) - 1)))) = _
          have : empW w' 94 14 4 = ((m + 1 : Nat) : Int) := by rw [empW_far (by omega)]; exact w'4
          rw [hv1, if_neg z10, empty_n, bnd_s, this, em2]
        · rw [hBrun, if_neg qv, p2, bnd_s]
          show (if v = 0 then _ else (bnd (f_Re_emptyDraft u') fun v26 => some (v26, wr ((v26 1 14) - 1)))) = _
          have : up (up u' 16 18 0) 14 18 (-1) 1 14 = ((m + 1 : Nat) : Int) := by simp [up, u'14]
          unfold f_Re_emptyDraft
          rw [hv1, if_neg z10, bl_s, bl_s, bnd_s, this, em2]
        · unfold f_Re_thrown
          have : up (up u' 16 18 0) 14 18 (-1) 1 0 = 0 := by
            have : u' 1 0 = 0 := by rw [p3.f (by omega) (by omega), s4 1 (by omega)]; exact fB10
            simp [up, this]
          show some (up (up u' 16 18 0) 14 18 (-1) 1 0) = _
          rw [this]
          rfl
      · have hLw : Low nF (m + 1) d now top1 L1 w' u' := Low_congr (fun c hc => p6 c (by omega)) (fun c h1 h2 => p3.cell (by omega) (by omega)) (fun k hk => p3.f (by omega) (by omega)) hL1
        obtain ⟨wf, uf, t1, t2, t3, t8, t9⟩ := back w' u' hLw.R hF1 p5 p4 w'4 u'14
        refine fin wf uf ?_ ?_ t3 t8 ⟨t9.1.trans ((p6 94 (by omega)).trans ((sC 94 (by omega) (by omega)).trans (fA 94 (by omega) (by omega)))), t9.2.trans ((p6 95 (by omega)).trans ((sC 95 (by omega) (by omega)).trans (fA 95 (by omega) (by omega))))⟩
        · rw [hArun, if_neg qv, p1, bnd_s]
          show (if v = 0 then f_Dm_enter_83 w' else _) = _
          rw [hv0, if_pos rfl, t1]
        · rw [hBrun, if_neg qv, p2, bnd_s]
          show (if v = 0 then f_Re_enter_100 u' else _) = _
          rw [hv0, if_pos rfl, t2]
  · have hs0 : sv = 0 := by
      rcases hsv2 with ⟨-, z⟩ | ⟨z, -⟩
      · exact absurd z qs
      · exact z
    have hb0 : bv = 0 := by
      rcases hbv2 with ⟨-, z1, z2⟩ | ⟨z, -⟩
      · exact absurd ⟨e3.safeL.mpr z1, hRE.symm.safeH (z2 (by decide))⟩ qs
      · exact z
    subst hs0
    subst hb0
    refine no_ve E_enter (E_enter_no (by decide)) (e := 2) (x := 1) (fun e => e = 0 ∨ e = 2 ∨ e = 3) hII (by decide) ?_ ?_ rfl (Or.inr (Or.inl rfl))
    · unfold f_Dm_enter
      rw [if_neg n1, hsv, bnd_s, if_pos rfl]
    · unfold f_Re_enter
      rw [e5, if_neg n1, hbv, bnd_s, if_pos rfl, h25]
theorem sn_deny : ∀ {wA wB : World}, II wA wB → ∃ (oA : World × Nat × Int) (oB : World × Int), f_Dm_deny wA = some oA ∧ f_Re_deny wB = some oB ∧ f_Re_thrown oB.1 = some (hmL 0 1 2 oA.2.1) ∧ (oA.2.1 = 0 ∨ oA.2.1 = 2 ∨ oA.2.1 = 3) ∧ (oA.2.1 = 0 → oA.2.2 = oB.2) ∧ II oA.1 oB.1 ∧ E_deny wA oA := by
  intro wA wB hII
  obtain ⟨nF, m, d, now, top, L, g, hI⟩ := id hII
  obtain ⟨n, hn5, hnA, hnB, hlA, hlB⟩ := drf_n hI
  obtain ⟨i1, i2, i3, i4, i5, i6, i7, i8, i9, i10, i11⟩ := id hI
  obtain ⟨e1, e2, e3, e4, e5, e6⟩ := id i5
  obtain ⟨d1, d2, d3, d4, d5⟩ := id i4
  have hm : m ≤ 12 := i3.1.2.2.1
  have hno : ∀ x : Int, ¬ x = 0 → f_Re_deny_49 wB x = some (up wB 1 0 x, 0) := fun x hx => by
    unfold f_Re_deny_49
    exact ref_no (f := fun v => bnd (f_Re_copyDraft v (wr (12 + (v 1 15)))) fun v8 => gd (0 ≤ wr (12 + (v8 1 15)) ∧ wr (12 + (v8 1 15)) < 19) (bl (up v8 14 (wr (12 + (v8 1 15))).toNat (-1)) fun w12 => bl (up w12 1 15 (wr ((w12 1 15) + 1))) fun w14 => bnd (f_Re_emptyDraft w14 ) fun v16 => some (v16, wr ((v16 1 15) - 1)))) (g := fun v => some (v, 0)) hx
  have h24 : f_Re_deny_24 wB = some (up wB 1 0 1, 0) := by
    unfold f_Re_deny_24 f_Re_deny_25
    rw [if_pos rfl, hno 1 z10]
  by_cases q0 : n = 0
  · refine no_ve E_deny (E_deny_no (by decide)) (e := 2) (x := 1) (fun e => e = 0 ∨ e = 2 ∨ e = 3) hII (by decide) ?_ ?_ rfl (Or.inr (Or.inl rfl))
    · unfold f_Dm_deny
      rw [hnA, if_pos (by omega)]
    · unfold f_Re_deny
      rw [hnB, if_pos (by omega), h24]
  obtain ⟨v, hv, hv2⟩ := isSafeB_n (x2 := 0) e2 (fun z => absurd rfl z)
  have hv : f_Re_isSafe wB 18 0 = some v := hv
  by_cases qs : SafeL (RB wA 94)
  · have hv1 : v = 1 := by
      rcases hv2 with ⟨z, -⟩ | ⟨z, z2⟩
      · exact z
      · exact absurd ⟨e3.safeL.mp qs, fun z => absurd rfl z⟩ z2
    subst hv1
    obtain ⟨bm, hbm⟩ : ∃ bm : Nat, f_Bo_boundVariables wA 94 = some (bm : Int) := by
      rcases boundVars_n e1.1 e1.2 with ⟨-, bm, h, -⟩ | ⟨h, -⟩
      · exact ⟨bm, h⟩
      · exact absurd qs h
    have hA0 : f_Dm_deny wA = if (d : Int) < 6 then (bnd (f_Pr_appendDenial wA 94) fun v13 => bnd (f_Bo_empty v13 94) fun v16 => some (v16, 0, wr ((v16 14 5) - 1))) else some (wA, 3, 0) := by
      unfold f_Dm_deny
      rw [hnA, if_neg (by omega), hbm, bnd_s, if_neg (by omega), d1]
    have hB0 : f_Re_deny wB = if (d : Int) = 6 then f_Re_deny_49 wB 2 else f_Re_deny_49 wB 0 := by
      unfold f_Re_deny f_Re_deny_25
      rw [hnB, if_neg (by omega), hv, bnd_s, if_neg z10, if_neg z10, d2]
    by_cases q6 : d = 6
    · exact no_ve E_deny (E_deny_no (by decide)) (e := 3) (x := 2) (fun e => e = 0 ∨ e = 2 ∨ e = 3) hII (by decide) (by rw [hA0, if_neg (by omega)]) (by rw [hB0, if_pos (by omega), hno 2 z20]) rfl (Or.inr (Or.inr rfl))
    have hd6 : d < 6 := by omega
    -- the class
    obtain ⟨w1, a1, a2, a3, a4, a5⟩ := copyA_n (w := wA) (b := 70 + 4 * d) (s := 94) (n := n) (by omega) hnA hn5
    have hkd : kdA (70 + 4 * d) = 1 := by
      have : ∀ d, d < 6 → kdA (70 + 4 * d) = 1 := by decide +kernel
      exact this d hd6
    have hden : f_Pr_denial wA (wA 14 5) = some (70 + 4 * d) := by
      unfold f_Pr_denial f_Pr_denial_26
      rw [d1, if_neg (by omega), if_neg (by omega), gd_t ⟨by omega, by omega⟩, Int.toNat_natCast, d4 d hd6, Int.toNat_natCast, if_neg (by omega)]
    obtain ⟨wA', hwA⟩ : ∃ w, w = empW (up w1 14 5 ((d + 1 : Nat) : Int)) 94 := ⟨_, rfl⟩
    have ex14 : w1 14 5 = (d : Int) := by rw [a2 14 (by omega)]; exact d1
    have hAfin : f_Dm_deny wA = some (wA', 0, (d : Int)) := by
      rw [hA0, if_pos (by omega)]
      unfold f_Pr_appendDenial
      rw [hden, bnd_s, gd_t hkd, a1, bnd_s, bl_s, bnd_s, empty_n, bnd_s, ex14, wr_of (x := (d : Int) + 1) ⟨by omega, by omega⟩]
      have : ((d : Int) + 1) = ((d + 1 : Nat) : Int) := by omega
      rw [this, ← hwA]
      have e : wA' 14 5 = ((d + 1 : Nat) : Int) := by rw [hwA, empW_far (by omega)]; simp [up]
      rw [e, wr_of (x := ((d + 1 : Nat) : Int) - 1) ⟨by omega, by omega⟩]
      have : (((d + 1 : Nat) : Int) - 1) = (d : Int) := by omega
      rw [this]
    have fA : ∀ c, (c < 94 ∨ 97 < c) → c ≠ 14 → (c < 70 + 4 * d ∨ 70 + 4 * d + 3 < c) → wA' c = wA c := fun c h1 h2 h3 => by
      rw [hwA, empW_far (by omega), ← a2 c h3]
      funext q
      simp [up, h2]
    have fA1 : ∀ c, c < 94 → c ≠ 14 → wA' c = w1 c := fun c h1 h2 => by
      rw [hwA, empW_far (by omega)]
      funext q
      simp [up, h2]
    have fA14 : ∀ k, k ≠ 5 → wA' 14 k = wA 14 k := fun k h => by
      rw [hwA, empW_far (by omega), ← a2 14 (by omega)]
      simp [up, h]
    have fA145 : wA' 14 5 = ((d + 1 : Nat) : Int) := by rw [hwA, empW_far (by omega)]; simp [up]
    -- the reference
    obtain ⟨u0, hu0⟩ : ∃ u, u = up wB 1 0 0 := ⟨_, rfl⟩
    have u0f : ∀ c, c ≠ 1 → u0 c = wB c := fun c hc => by rw [hu0]; exact up10 hc
    have hRu : RBB u0 18 = RBB wB 18 := RBB_congr (fun c a b => u0f c (by omega)) 18
    have u15 : u0 1 15 = (d : Int) := by rw [hu0, up10_f (by decide)]; exact d2
    obtain ⟨u1, b1, b2, b3, b4⟩ := copyB_n (w := u0) (ru := 12 + d) (by omega) (by rw [hRu, hlB]; exact hn5)
    have i12 : wr (12 + (d : Int)) = ((12 + d : Nat) : Int) := by rw [wr_of (x := 12 + (d : Int)) ⟨by omega, by omega⟩]; omega
    obtain ⟨wB', hwB⟩ : ∃ w, w = up (up (up (up u1 14 (12 + d) (-1)) 1 15 ((d + 1 : Nat) : Int)) 16 18 0) 14 18 (-1) := ⟨_, rfl⟩
    have u1f : u1 1 15 = (d : Int) := by rw [b2 1 15 (by omega)]; exact u15
    have hBfin : f_Re_deny wB = some (wB', (d : Int)) := by
      rw [hB0, if_neg (by omega)]
      unfold f_Re_deny_49
      rw [ref_ok (f := fun v => bnd (f_Re_copyDraft v (wr (12 + (v 1 15)))) fun v8 => gd (0 ≤ wr (12 + (v8 1 15)) ∧ wr (12 + (v8 1 15)) < 19) (bl (up v8 14 (wr (12 + (v8 1 15))).toNat (-1)) fun w12 => bl (up w12 1 15 (wr ((w12 1 15) + 1))) fun w14 => bnd (f_Re_emptyDraft w14 ) fun v16 => some (v16, wr ((v16 1 15) - 1)))) (g := fun v => some (v, 0)), ← hu0, u15, i12, b1, bnd_s, u1f, i12, gd_t ⟨by omega, by omega⟩, bl_s, bl_s, Int.toNat_natCast]
      have e : up u1 14 (12 + d) (-1) 1 15 = (d : Int) := by simp [up, u1f]
      rw [e, wr_of (x := (d : Int) + 1) ⟨by omega, by omega⟩]
      have : ((d : Int) + 1) = ((d + 1 : Nat) : Int) := by omega
      rw [this]
      unfold f_Re_emptyDraft
      rw [bl_s, bl_s, bnd_s, ← hwB]
      have e : wB' 1 15 = ((d + 1 : Nat) : Int) := by rw [hwB]; simp [up]
      rw [e, wr_of (x := ((d + 1 : Nat) : Int) - 1) ⟨by omega, by omega⟩]
      have : (((d + 1 : Nat) : Int) - 1) = (d : Int) := by omega
      rw [this]
    have fB : ∀ c k, ¬ (c = 14 ∧ (k = 12 + d ∨ k = 18)) → ¬ (c = 1 ∧ k = 15) → ¬ (c = 16 ∧ k = 18) → wB' c k = u1 c k := fun c k h1 h2 h3 => by
      rw [hwB]
      unfold up
      rw [if_neg (fun t => h1 (by omega)), if_neg h3, if_neg h2, if_neg (fun t => h1 (by omega))]
    have fBc : ∀ c, c ≠ 1 → (c < 14 ∨ 19 < c) → wB' c = wB c := fun c h1 h2 => by
      rw [← u0f c h1]
      funext k
      rw [fB c k (by omega) (by omega) (by omega)]
      exact b2 c k (by omega)
    have fB1 : ∀ k, 1 ≤ k → k < 15 → wB' 1 k = wB 1 k := fun k h1 h2 => by
      rw [fB 1 k (by omega) (by omega) (by omega), b2 1 k (by omega), hu0]
      exact up10_f (by omega)
    have fRow : ∀ ru, ru ≠ 12 + d → ru < 18 → (RBB wB ru).ln ≤ 5 → RE (RBB wB ru) (RBB wB' ru) ∧ wB' 16 ru = wB 16 ru := fun ru h1 h2 h5 => by
      have e : ∀ c k, c ≠ 1 → u0 c k = wB c k := fun c k hc => by rw [u0f c hc]
      have e16 : wB' 16 ru = wB 16 ru := by rw [fB 16 ru (by omega) (by omega) (by omega), b2 16 ru (by omega), e 16 _ (by decide)]
      refine ⟨⟨?_, fun p hp => ⟨?_, ?_, fun c hc => ?_⟩, ?_, fun c hc => ?_⟩, e16⟩
      · show (wB' 16 ru).toNat = (wB 16 ru).toNat
        rw [e16]
      · show wB' 17 (5 * ru + p) = wB 17 (5 * ru + p)
        rw [fB 17 _ (by omega) (by omega) (by omega), b2 17 _ (by omega), e 17 _ (by decide)]
      · show wB' 18 (5 * ru + p) = wB 18 (5 * ru + p)
        rw [fB 18 _ (by omega) (by omega) (by omega), b2 18 _ (by omega), e 18 _ (by decide)]
      · show wB' 19 (3 * (5 * ru + p) + c) = wB 19 (3 * (5 * ru + p) + c)
        rw [fB 19 _ (by omega) (by omega) (by omega), b2 19 _ (by omega), e 19 _ (by decide)]
      · show wB' 14 ru = wB 14 ru
        rw [fB 14 _ (by omega) (by omega) (by omega), b2 14 _ (by omega), e 14 _ (by decide)]
      · show wB' 15 (3 * ru + c) = wB 15 (3 * ru + c)
        rw [fB 15 _ (by omega) (by omega) (by omega), b2 15 _ (by omega), e 15 _ (by decide)]
    have newRow : EqT (RBB u1 (12 + d)) (RBB wB' (12 + d)) ∧ wB' 16 (12 + d) = wB 16 18 := by
      have e16 : wB' 16 (12 + d) = u1 16 (12 + d) := by rw [fB 16 _ (by omega) (by omega) (by omega)]
      refine ⟨⟨?_, fun p hp => ⟨?_, ?_, fun c hc => ?_⟩⟩, ?_⟩
      · show (wB' 16 (12 + d)).toNat = (u1 16 (12 + d)).toNat
        rw [e16]
      · exact fB 17 _ (by omega) (by omega) (by omega)
      · exact fB 18 _ (by omega) (by omega) (by omega)
      · exact fB 19 _ (by omega) (by omega) (by omega)
      · rw [e16, b4, u0f 16 (by omega)]
    have hSA : SA wA' = SA wA := SA_c5 (fun c a b => fA c (by omega) (by omega) (by omega))
    have hSB : SA wB' = SA wB := SA_c5 (fun c a b => fBc c (by omega) (by omega))
    have hT : WfT wB' := WfT_congr (fun c a b => fBc c (by omega) (by omega)) i1.T
    have hnewA : RB wA' (70 + 4 * d) = RB w1 (70 + 4 * d) := RB_congr (fA1 _ (by omega) (by omega)) (fA1 _ (by omega) (by omega)) (fA1 _ (by omega) (by omega)) (fA1 _ (by omega) (by omega))
    rw [hRu] at b3
    have eqA : EqT (RB wA 94) (RB wA' (70 + 4 * d)) := by rw [hnewA]; exact a3.T
    have eqB : EqT (RBB wB 18) (RBB wB' (12 + d)) := b3.T.trans newRow.1
    have hlA' : (RB wA' (70 + 4 * d)).ln = n := by rw [eqA.1, hlA]
    have hlB' : (RBB wB' (12 + d)).ln = n := by rw [eqB.1, hlB]
    have hInv : Inv nF m (d + 1) now top L g wA' wB' := by
      refine Inv_rows (fun c h1 h2 => fA c (by omega) h2 (by omega)) (fun c h1 => fA c (by omega) (by omega) (by omega)) fA14 (fun c h1 h2 => fBc c (by omega) (by omega)) (fun c h1 => fBc c (by omega) (by omega)) fB1 (fun j hj => fRow j (by omega) (by omega) (i3.2.1.2.2 j hj).1.2.2.2.1) hI ⟨fA145, ?_, by omega, fun j hj => ?_, fun j hj => ?_⟩ (IDrf_nil hT ?_ ?_ ?_ ?_)
      · rw [hwB]; simp [up]
      · rw [fA 20 (by omega) (by omega) (by omega)]; exact d4 j hj
      · by_cases qj : j = d
        · subst qj
          refine ⟨⟨?_, ?_⟩, ⟨by omega, hT, ?_, ?_⟩, eqA.symm.trans (e3.trans eqB), eqA.safeL.mp qs, eqA.few e4⟩
          · rw [hlA', fA1 _ (by omega) (by omega)]; exact a4
          · rw [hSA]; exact eqA.wf e1.2
          · rw [hlB', newRow.2]; exact hnB
          · rw [hSB]; exact eqB.wf e2.2.2.2
        · obtain ⟨y1, y2, y3, y4, y5⟩ := d5 j (by omega)
          have hr : RB wA' (70 + 4 * j) = RB wA (70 + 4 * j) := RB_congr (fA _ (by omega) (by omega) (by omega)) (fA _ (by omega) (by omega) (by omega)) (fA _ (by omega) (by omega) (by omega)) (fA _ (by omega) (by omega) (by omega))
          obtain ⟨z1, z2⟩ := fRow (12 + j) (by omega) (by omega) y2.2.2.2.1
          rw [hr]
          refine ⟨?_, RuBL_E z1.T z2 (fun c a b => fBc c (by omega) (by omega)) y2, y3.trans z1.T, y4, y5⟩
          unfold DnA
          rw [hr, hSA, fA _ (by omega) (by omega) (by omega)]
          exact y1
      · rw [hwA]; exact empW_0
      · rw [hwA]; exact empW_1
      · rw [hwB]; simp [up]
      · rw [hwB]; simp [up]
    refine ⟨(wA', 0, (d : Int)), (wB', (d : Int)), hAfin, hBfin, ?_, Or.inl rfl, fun _ => rfl, ⟨nF, m, d + 1, now, top, L, g, hInv⟩, ky_of hI hInv (by omega) (by omega) (by omega) (fA 3 (by omega) (by omega) (by omega)), fun _ => ⟨?_, Int.natCast_nonneg _⟩, fun h => absurd rfl h⟩
    · unfold f_Re_thrown
      show some (wB' 1 0) = _
      rw [fB 1 0 (by omega) (by omega) (by omega), b2 1 0 (by omega), hu0]
      simp [up]
      rfl
    · show wA' 94 0 = 0
      rw [hwA]; exact empW_0
  · have hv0 : v = 0 := by
      rcases hv2 with ⟨-, z, -⟩ | ⟨z, -⟩
      · exact absurd (e3.safeL.mpr z) qs
      · exact z
    subst hv0
    refine no_ve E_deny (E_deny_no (by decide)) (e := 2) (x := 1) (fun e => e = 0 ∨ e = 2 ∨ e = 3) hII (by decide) ?_ ?_ rfl (Or.inr (Or.inl rfl))
    · unfold f_Dm_deny
      rcases boundVars_n e1.1 e1.2 with ⟨h, -⟩ | ⟨-, h⟩
      · exact absurd h qs
      · rw [hnA, if_neg (by omega), h, bnd_s, if_pos rfl]
    · unfold f_Re_deny
      rw [hnB, if_neg (by omega), hv, bnd_s, if_pos rfl, h24]
theorem sn_pass : ∀ {wA wB : World}, II wA wB → ∃ (oA : World × Nat × Int) (oB : World × Int), f_Dm_pass wA = some oA ∧ f_Re_pass wB = some oB ∧ f_Re_thrown oB.1 = some (hmL 0 0 1 oA.2.1) ∧ (oA.2.1 = 0 ∨ oA.2.1 = 3) ∧ (oA.2.1 = 0 → oA.2.2 = oB.2) ∧ II oA.1 oB.1 ∧ E_pass wA oA := by
  intro wA wB hII
  obtain ⟨nF, m, d, now, top, L, g, hI⟩ := id hII
  obtain ⟨n1, n2, n3⟩ := hI.2.2.2.2.2.1
  have hno : ∀ x : Int, ¬ x = 0 → f_Re_pass_14 wB x = some (up wB 1 0 x, 0) := fun x hx => by
    unfold f_Re_pass_14
    exact ref_no (f := fun v => bl (up v 1 1 (wr ((v 1 1) + 1))) fun w7 => some (w7, w7 1 1)) (g := fun v => some (v, 0)) hx
  by_cases q : now = 3
  · refine no_ve E_pass (E_pass_no (by decide)) (e := 3) (x := 1) (fun e => e = 0 ∨ e = 3) hII (by decide) ?_ ?_ rfl (Or.inr rfl)
    · unfold f_Dm_pass
      rw [n1, if_neg (by omega)]
    · unfold f_Re_pass
      rw [n2, if_pos (by omega), hno 1 z10]
  · have eA : wr ((now : Int) + 1) = ((now + 1 : Nat) : Int) := by rw [wr_of (x := (now : Int) + 1) ⟨by omega, by omega⟩]; omega
    refine ⟨(up (up wA 1 12 ((now + 1 : Nat) : Int)) 150 0 0, 0, ((now + 1 : Nat) : Int)), (up (up wB 1 0 0) 1 1 ((now + 1 : Nat) : Int), ((now + 1 : Nat) : Int)), ?_, ?_, ?_, Or.inl rfl, fun _ => rfl, ⟨nF, m, d, now + 1, top, L, g, Inv_pass (fun c h1 h2 => ?_) ?_ ?_ (fun c h1 => ?_) (fun k hk => ?_) ?_ (by omega) hI⟩, fun _ => ⟨⟨?_, ?_, ?_, ?_⟩, Int.natCast_nonneg _⟩, fun h => absurd rfl h, Dk.of ?_ ?_⟩
    · unfold f_Dm_pass
      rw [n1, if_pos (by omega), eA, bl_s, bl_s]
      have : up (up wA 1 12 ((now + 1 : Nat) : Int)) 150 0 0 1 12 = ((now + 1 : Nat) : Int) := by simp [up]
      rw [this]
    · unfold f_Re_pass
      rw [n2, if_neg (by omega)]
      unfold f_Re_pass_14
      rw [ref_ok (f := fun v => bl (up v 1 1 (wr ((v 1 1) + 1))) fun w7 => some (w7, w7 1 1)) (g := fun v => some (v, 0)), bl_s]
      have e1 : up wB 1 0 0 1 1 = (now : Int) := by simp [up]; exact n2
      have e2 : up (up wB 1 0 0) 1 1 ((now + 1 : Nat) : Int) 1 1 = ((now + 1 : Nat) : Int) := by simp [up]
      rw [e1, eA, e2]
    · unfold f_Re_thrown
      have : up (up wB 1 0 0) 1 1 ((now + 1 : Nat) : Int) 1 0 = 0 := by simp [up]
      show some (up (up wB 1 0 0) 1 1 ((now + 1 : Nat) : Int) 1 0) = _
      rw [this]
      rfl
    · funext k; simp [up, h1, h2]
    · simp [up]
    · simp [up]
    · funext k; simp [up, h1]
    · simp [up, show k ≠ 0 by omega, show k ≠ 1 by omega]
    · simp [up]
    · simp [up]
    · simp [up]
    · simp [up, n1]
    · funext k; simp [up]
    · funext k; simp [up]
    · funext k; simp [up]
