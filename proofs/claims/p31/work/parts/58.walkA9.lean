/-! THE CLASS'S WALK: it begins; what it is sure to find -/
def vk (w : World) (k : Nat) : Nat → Int := fun v => if v < k then -1 else w 104 v
theorem all_on : ∀ i : Nat, i < 8 → ¬ iand (ishr (-1) (i : Int)) 1 = 0 := by decide +kernel
theorem unbind_all {w : World} : f_Wa_unbind w (-1) = some (setV w (vk w 8)) := by
  have h0 : setV w (vk w 0) = w := by
    have : vk w 0 = w 104 := funext (fun v => if_neg (by omega))
    rw [this, setV_self]
  have h := lp_go (F := fun z : (World × Int) => f_Wa_unbind_2B z.1 (-1) z.2) (fun i => (setV w (vk w i), (i : Int))) (setV w (vk w 8)) 8 (fun i hi => by
    show f_Wa_unbind_2B (setV w (vk w i)) (-1) (i : Int) = some (Sum.inl (setV w (vk w (i + 1)), ((i + 1 : Nat) : Int)))
    unfold f_Wa_unbind_2B f_Wa_unbind_30
    rw [if_neg (by omega), if_neg (by omega), if_neg (all_on i hi), gd_t ⟨by omega, by omega⟩, bl_s, bl_s, wr_of (x := (i : Int) + 1) ⟨by omega, by omega⟩, Int.toNat_natCast, up_V, setV_set, setV_104]
    have e : upn (vk w i) i (-1) = vk w (i + 1) := by
      funext v
      unfold vk
      by_cases q : v = i
      · subst q
        rw [upn_eq, if_pos (by omega)]
      · rw [upn_ne q]
        by_cases q2 : v < i
        · rw [if_pos q2, if_pos (by omega)]
        · rw [if_neg q2, if_neg (by omega)]
    rw [e]
    rfl) (by
    show f_Wa_unbind_2B _ (-1) ((8 : Nat) : Int) = _
    unfold f_Wa_unbind_2B
    rw [if_pos (by decide)])
  unfold f_Wa_unbind f_Wa_unbind_2
  rw [← h0] 
  simp only [h0] at h ⊢
  exact h
/-- a walk's world when it begins -/
def bg (w : World) (b t E : Nat) : World := setV (up (up (up (up (up (up w 103 1 (b : Int)) 103 2 (t : Int)) 103 3 (E : Int)) 103 4 0) 103 5 1) 103 6 (-1)) (vk w 8)
theorem begin_n {w : World} {b t E : Nat} : f_Wa_begin w b t (E : Int) = some (bg w b t E) := by
  unfold f_Wa_begin
  rw [bl_s, bl_s, bl_s, bl_s, bl_s, bl_s, unbind_all, bnd_s]
  have e : vk (up (up (up (up (up (up w 103 1 (b : Int)) 103 2 (t : Int)) 103 3 (E : Int)) 103 4 0) 103 5 1) 103 6 (-1)) 8 = vk w 8 := by
    funext v
    unfold vk
    simp [up]
  rw [e]
  rfl
/-- .. with a lead -/
def ld (w : World) (p r : Int) : World := up (up w 103 6 p) 103 7 r
theorem leadBy_n {w : World} {p r : Int} : f_Wa_leadBy w p r = some (ld w p r) := by
  unfold f_Wa_leadBy
  rw [bl_s, bl_s]
  rfl
theorem bgld_fr {w : World} {b t E : Nat} {p r : Int} {c : Nat} (h : c ≠ 103) (h' : c ≠ 104) : ld (bg w b t E) p r c = w c := by
  funext k
  unfold ld bg
  simp [up, setV, h, h']
theorem bg_fr {w : World} {b t E : Nat} {c : Nat} (h : c ≠ 103) (h' : c ≠ 104) : bg w b t E c = w c := by
  funext k
  unfold bg
  simp [up, setV, h, h']
theorem ld_V {w : World} {p r : Int} : ld w p r 104 = w 104 := by
  funext k
  unfold ld
  simp [up]
theorem bg_V {w : World} {b t E : Nat} : bg w b t E 104 = vk w 8 := setV_104
theorem vk_VV {w : World} (h : ∀ v : Nat, 8 ≤ v → w 104 v = 0) : VV (vk w 8) := by
  intro v
  unfold vk
  by_cases q : v < 8
  · rw [if_pos q]; omega
  · rw [if_neg q, h v (by omega)]; omega
/-- values as far as there are are the assignment's -/
def Cons (σ : Nat → Nat) (vs : Nat → Int) : Prop := ∀ v, v < 8 → vs v ≠ -1 → vs v = (σ v : Int)
theorem Cons_vl {σ : Nat → Nat} {vs : Nat → Int} (h : Cons σ vs) {t : Int} (ht : -8 ≤ t) (hv : vl vs t ≠ -1) : vl vs t = (tv σ t : Int) := by
  unfold vl at hv ⊢
  unfold tv
  by_cases hn : t < 0
  · rw [if_pos hn] at hv ⊢
    rw [if_pos hn]
    exact h _ (by omega) hv
  · rw [if_neg hn, if_neg hn]
    omega
theorem Cons_bd {σ : Nat → Nat} {vs : Nat → Int} (h : Cons σ vs) {t x : Int} (hx : x = (tv σ t : Int)) : Cons σ (bd vs t x) := by
  unfold bd
  split
  · next q =>
    intro v hv hne
    by_cases e : v = (-1 - t).toNat
    · subst e
      rw [upn_eq, hx]
      unfold tv
      rw [if_pos q.1]
    · rw [upn_ne e] at hne ⊢
      exact h v hv hne
  · exact h
/-- a tuple that is the assignment's is taken -/
theorem mtf_cons {tm : Nat → Int} {cd : Nat → Nat} {σ : Nat → Nat} (htm : ∀ c, c < 3 → -8 ≤ tm c ∧ tm c < 128) : ∀ (n c : Nat) (vs : Nat → Int) (m : Nat), c + n ≤ 3 → Cons σ vs → (∀ j, j < c + n → cd j = tv σ (tm j)) → ∃ v' m', mtf tm cd n c vs m = some (v', m') ∧ Cons σ v' := by
  intro n
  induction n with
  | zero => intro c vs m _ h _; exact ⟨vs, m, rfl, h⟩
  | succ n ih =>
    intro c vs m hc h hj
    have hcd := hj c (by omega)
    have ht := htm c (by omega)
    unfold mtf
    by_cases h1 : vl vs (tm c) = -1
    · rw [if_pos h1]
      exact ih (c + 1) _ _ (by omega) (Cons_bd h (by rw [hcd])) (fun j hj' => hj j (by omega))
    · rw [if_neg h1, if_pos (by rw [Cons_vl h ht.1 h1, hcd])]
      exact ih (c + 1) _ _ (by omega) h (fun j hj' => hj j (by omega))
/-- a path, from its last step on; each step as P says -/
def AllP (P : Nat → Nat → Prop) : List Nat → Prop
  | [] => True
  | s :: l => P l.length s ∧ AllP P l
/-- a literal that holds is taken -/
theorem oc_cons {w : World} {b t E N d : Nat} {ρ c : Nat → Nat} {L : Nat → List Nat} {vs : Nat → Int} {s : Nat} {σ : Nat → Nat} (hC : WkC w b t E N ρ c L) (hd : d < E) (hV : VV vs) (hcov : Cov w b d vs) (hσ : VA σ) (hK : Cons σ vs) (hl : lit (AM N ρ c) (RB w b) σ (pl w d))
    (hs : w (b + 1) (pl w d) = 0 → s < N ∧ (ρ s : Int) = w (b + 2) (pl w d) ∧ c s = tc σ ((RB w b).tm (pl w d)) ∧ timely (w 103 6) (w 103 7) (w (t + 4)) (pl w d) s = true) : ∃ q, oc w b t N ρ c d vs s = some q ∧ Cons σ q.1 := by
  obtain ⟨hb, hkb, ht, hkt, hE, hE5, hle, hS, hA, hL, hsafe⟩ := hC
  have hp := pl_lt (w := w) hd hle
  obtain ⟨htm, hfm, hsj⟩ := hL (pl w d) hp
  have hfm' : (RB w b).fm (pl w d) = w (b + 1) (pl w d) := rfl
  have hsjR : (RB w b).sj (pl w d) = w (b + 2) (pl w d) := rfl
  have sv : w (b + 1) (pl w d) ≠ 0 → ∀ cc, cc < 3 → (w (b + 1) (pl w d) = 3 → cc ≠ 0) → vl vs (w (b + 3) (3 * pl w d + cc)) = (tv σ (w (b + 3) (3 * pl w d + cc)) : Int) := fun hf cc hcc h3 => by
    refine Cons_vl hK (htm cc hcc).1 ?_
    by_cases hn : w (b + 3) (3 * pl w d + cc) < 0
    · obtain ⟨j, c', hj, hc', hff, he⟩ := hsafe d hd hf cc hcc h3 hn
      have := hcov j c' hj hc' hff
      rw [he] at this
      omega
    · unfold vl
      rw [if_neg hn]
      omega
  unfold oc
  unfold lit at hl
  rw [hfm'] at hl
  by_cases f0 : w (b + 1) (pl w d) = 0
  · rw [if_pos f0]
    obtain ⟨r, hr, hr10, hrd, hz⟩ := hsj (by omega)
    have hS3 := (hS r hr10).1
    obtain ⟨h1, h2, h3, h4⟩ := hs f0
    have hsl := hA.2.2.2.2.1 s h1
    unfold tO
    rw [if_pos h4, hsl.2.1, Int.toNat_natCast, hr, Int.toNat_natCast]
    have key : ∀ j, j < 3 → clm (c s) j = tv σ (w (b + 3) (3 * pl w d + j)) := fun j hj => by
      rw [h3]
      have t0 := tv_lt hσ (htm 0 (by omega)).2
      have t1 := tv_lt hσ (htm 1 (by omega)).2
      have t2 := tv_lt hσ (htm 2 (by omega)).2
      show clm (pk (tv σ (w (b + 3) (3 * pl w d + 0))) (tv σ (w (b + 3) (3 * pl w d + 1))) (tv σ (w (b + 3) (3 * pl w d + 2)))) j = _
      have : j = 0 ∨ j = 1 ∨ j = 2 := by omega
      rcases this with rfl | rfl | rfl
      · exact cl0_pk t0 t1 t2
      · exact cl1_pk t0 t1 t2
      · exact cl2_pk t0 t1 t2
    obtain ⟨v', m', e, hc'⟩ := mtf_cons (σ := σ) htm (w 3 r).toNat 0 vs 0 (by omega) hK (fun j hj => key j (by omega))
    exact ⟨(v', m'), e, hc'⟩
  · rw [if_neg f0] at hl ⊢
    unfold pO
    by_cases f1 : w (b + 1) (pl w d) = 1
    · rw [if_pos f1] at hl ⊢
      have e : tn w b (pl w d) vs = tc σ ((RB w b).tm (pl w d)) := by
        have a0 := sv f0 0 (by omega) (fun e => by omega)
        have a1 := sv f0 1 (by omega) (fun e => by omega)
        have a2 := sv f0 2 (by omega) (fun e => by omega)
        rw [tn_sg]
        unfold tc
        rw [tv_sg, tv_sg, tv_sg]
        show pk (vl vs (w (b + 3) (3 * pl w d + 0))).toNat (vl vs (w (b + 3) (3 * pl w d + 1))).toNat (vl vs (w (b + 3) (3 * pl w d + 2))).toNat = _
        rw [a0, a1, a2, Int.toNat_natCast, Int.toNat_natCast, Int.toNat_natCast]
        rfl
      rw [e]
      have hl : ¬ AM N ρ c (w (b + 2) (pl w d)) (tc σ ((RB w b).tm (pl w d))) := hl
      rw [if_neg hl]
      exact ⟨_, rfl, hK⟩
    · rw [if_neg f1] at hl ⊢
      by_cases f2 : w (b + 1) (pl w d) = 2
      · rw [if_pos f2] at hl ⊢
        have a0 := sv f0 0 (by omega) (fun e => by omega)
        have a1 := sv f0 1 (by omega) (fun e => by omega)
        rw [Nat.add_zero (3 * pl w d)] at a0
        have hl : cmpk (w (b + 2) (pl w d)) (tv σ (w (b + 3) (3 * pl w d))) (tv σ (w (b + 3) (3 * pl w d + 1))) := hl
        have hc : cmpI (w (b + 2) (pl w d)) (vl vs (w (b + 3) (3 * pl w d))) (vl vs (w (b + 3) (3 * pl w d + 1))) := by
          rw [a0, a1]
          unfold cmpk at hl
          unfold cmpI
          split at hl
          · next e => rw [if_pos e]; omega
          · next e =>
            rw [if_neg e]
            split at hl
            · next e => rw [if_pos e]; omega
            · next e =>
              rw [if_neg e]
              split at hl
              · next e => rw [if_pos e]; omega
              · next e => rw [if_neg e]; omega
        rw [if_pos hc]
        exact ⟨_, rfl, hK⟩
      · rw [if_neg f2] at hl ⊢
        have f3 : w (b + 1) (pl w d) = 3 := by omega
        have a1 := sv f0 1 (by omega) (fun _ => by omega)
        have a2 := sv f0 2 (by omega) (fun _ => by omega)
        have hl : tv σ (w (b + 3) (3 * pl w d)) = min 127 (tv σ (w (b + 3) (3 * pl w d + 1)) + tv σ (w (b + 3) (3 * pl w d + 2))) := hl
        by_cases h1 : vl vs (w (b + 3) (3 * pl w d)) = -1
        · rw [if_pos h1]
          exact ⟨_, rfl, Cons_bd hK (by rw [a1, a2, hl]; omega)⟩
        · rw [if_neg h1]
          have t0 : -8 ≤ w (b + 3) (3 * pl w d) := (htm 0 (by omega)).1
          have a0 := Cons_vl hK t0 h1
          rw [if_pos (by rw [a0, a1, a2]; omega)]
          exact ⟨_, rfl, hK⟩
/-- a path: step by step from a depth on -/
def En (O : Nat → (Nat → Int) → Nat → Option ((Nat → Int) × Nat)) (C : Nat → List Nat) : Nat → Nat → (Nat → Int) → List Nat → (Nat → Int) × List Nat → Prop
  | 0, _, vs, pa, x => x = (vs, pa)
  | k + 1, d, vs, pa, x => ∃ s, s ∈ C d ∧ ∃ q, O d vs s = some q ∧ En O C k (d + 1) q.1 (s :: pa) x
theorem mem_mo {β : Type} {x : Option ((Nat → Int) × Nat)} {g : (Nat → Int) × Nat → List β} {y : β} : y ∈ mo x g ↔ ∃ q, x = some q ∧ y ∈ g q := by
  cases x with
  | none => exact ⟨fun h => (by cases h), fun h => (by obtain ⟨q, h, _⟩ := h; cases h)⟩
  | some q => exact ⟨fun h => ⟨q, rfl, h⟩, fun ⟨q', h, h'⟩ => by cases h; exact h'⟩
theorem mem_en {O : Nat → (Nat → Int) → Nat → Option ((Nat → Int) × Nat)} {C : Nat → List Nat} : ∀ (k d : Nat) (vs : Nat → Int) (pa : List Nat) (x : (Nat → Int) × List Nat), x ∈ en O C k d vs pa ↔ En O C k d vs pa x := by
  intro k
  induction k with
  | zero => intro d vs pa x; exact List.mem_singleton
  | succ k ih =>
    intro d vs pa x
    show x ∈ (C d).flatMap (fun s => mo (O d vs s) (fun q => en O C k (d + 1) q.1 (s :: pa))) ↔ _
    rw [List.mem_flatMap]
    constructor
    · rintro ⟨s, hs, h⟩
      obtain ⟨q, hq, h⟩ := mem_mo.mp h
      exact ⟨s, hs, q, hq, (ih _ _ _ _).mp h⟩
    · rintro ⟨s, hs, q, hq, h⟩
      exact ⟨s, hs, mem_mo.mpr ⟨q, hq, (ih _ _ _ _).mpr h⟩⟩
theorem mem_rem {O : Nat → (Nat → Int) → Nat → Option ((Nat → Int) × Nat)} {C : Nat → List Nat} {E : Nat} {s0 : Nat} {rest : List Nat} {vs : Nat → Int} {st : List FRM} {x : (Nat → Int) × List Nat} : x ∈ rem O C E ((s0, rest, vs) :: st) ↔ (∃ s, s ∈ rest ∧ ∃ q, O st.length vs s = some q ∧ En O C (E - st.length - 1) (st.length + 1) q.1 (s :: pth st) x) ∨ x ∈ rem O C E st := by
  show x ∈ rest.flatMap _ ++ _ ↔ _
  rw [List.mem_append, List.mem_flatMap]
  refine or_congr ?_ Iff.rfl
  constructor
  · rintro ⟨s, hs, h⟩
    obtain ⟨q, hq, h⟩ := mem_mo.mp h
    exact ⟨s, hs, q, hq, (mem_en _ _ _ _ _).mp h⟩
  · rintro ⟨s, hs, q, hq, h⟩
    exact ⟨s, hs, mem_mo.mpr ⟨q, hq, (mem_en _ _ _ _ _).mpr h⟩⟩
theorem AllP_app {P : Nat → Nat → Prop} : ∀ (l m : List Nat), AllP P (l ++ m) → AllP P m := by
  intro l
  induction l with
  | nil => intro m h; exact h
  | cons a l ih => intro m h; exact ih m h.2
/-- what is found goes on from the path -/
theorem En_pa {O : Nat → (Nat → Int) → Nat → Option ((Nat → Int) × Nat)} {C : Nat → List Nat} : ∀ (k d : Nat) (vs : Nat → Int) (pa : List Nat) (x : (Nat → Int) × List Nat), En O C k d vs pa x → ∃ l, x.2 = l ++ pa := by
  intro k
  induction k with
  | zero => intro d vs pa x h; exact ⟨[], by rw [show x = (vs, pa) from h]; rfl⟩
  | succ k ih =>
    intro d vs pa x h
    obtain ⟨s, hs, q, hq, h⟩ := h
    obtain ⟨l, hl⟩ := ih _ _ _ _ h
    exact ⟨l ++ [s], by rw [hl]; simp⟩
/-- a path whose steps are as they were is there still -/
theorem En_stable {O O' : Nat → (Nat → Int) → Nat → Option ((Nat → Int) × Nat)} {C C' : Nat → List Nat} {P : Nat → Nat → Prop} (hO : ∀ d vs s, P d s → O' d vs s = O d vs s) (hC : ∀ d s, s ∈ C d → s ∈ C' d) : ∀ (k d : Nat) (vs : Nat → Int) (pa : List Nat) (x : (Nat → Int) × List Nat), pa.length = d → AllP P x.2 → En O C k d vs pa x → En O' C' k d vs pa x := by
  intro k
  induction k with
  | zero => intro d vs pa x _ _ h; exact h
  | succ k ih =>
    intro d vs pa x hd hP h
    obtain ⟨s, hs, q, hq, h⟩ := h
    obtain ⟨l, hl⟩ := En_pa _ _ _ _ _ h
    have hPs : P d s := by
      rw [hl] at hP
      have := (AllP_app l _ hP).1
      rwa [hd] at this
    exact ⟨s, hC d s hs, q, by rw [hO d vs s hPs]; exact hq, ih (d + 1) q.1 (s :: pa) x (by rw [List.length_cons, hd]) hP h⟩
/-- the assignment's own path -/
theorem own_path {w : World} {b t E N : Nat} {ρ c : Nat → Nat} {L : Nat → List Nat} {σ : Nat → Nat} {P : Nat → Nat → Prop} {X : Nat → Nat} (hC : WkC w b t E N ρ c L) (hσ : VA σ) (hl : ∀ d, d < E → lit (AM N ρ c) (RB w b) σ (pl w d))
    (hX : ∀ d, d < E → w (b + 1) (pl w d) = 0 → X d < N ∧ (ρ (X d) : Int) = w (b + 2) (pl w d) ∧ c (X d) = tc σ ((RB w b).tm (pl w d)) ∧ timely (w 103 6) (w 103 7) (w (t + 4)) (pl w d) (X d) = true) (hP : ∀ d, d < E → (w (b + 1) (pl w d) = 0 → P d (X d)) ∧ (w (b + 1) (pl w d) ≠ 0 → P d 0)) :
    ∀ (k d : Nat) (vs : Nat → Int) (pa : List Nat), d + k = E → VV vs → Cov w b d vs → Cons σ vs → pa.length = d → AllP P pa → ∃ v' pa', En (oc w b t N ρ c) (cnd w b L) k d vs pa (v', pa') ∧ Cons σ v' ∧ VV v' ∧ Cov w b E v' ∧ AllP P pa' := by
  intro k
  induction k with
  | zero => intro d vs pa hd hV hcov hK hpl hPa; exact ⟨vs, pa, rfl, hK, hV, by rw [← hd]; exact hcov, hPa⟩
  | succ k ih =>
    intro d vs pa hd hV hcov hK hpl hPa
    have hdE : d < E := by omega
    have hA := hC.2.2.2.2.2.2.2.2.1
    have go : ∀ s, s ∈ cnd w b L d → P d s → (w (b + 1) (pl w d) = 0 → s < N ∧ (ρ s : Int) = w (b + 2) (pl w d) ∧ c s = tc σ ((RB w b).tm (pl w d)) ∧ timely (w 103 6) (w 103 7) (w (t + 4)) (pl w d) s = true) → ∃ v' pa', En (oc w b t N ρ c) (cnd w b L) (k + 1) d vs pa (v', pa') ∧ Cons σ v' ∧ VV v' ∧ Cov w b E v' ∧ AllP P pa' := fun s hs hPs h0 => by
      obtain ⟨q, hq, hKq⟩ := oc_cons hC hdE hV hcov hσ hK (hl d hdE) h0
      have hok := oc_ok hC hdE hV hcov hq
      obtain ⟨v', pa', hE, h1, h2, h3, h4⟩ := ih (d + 1) q.1 (s :: pa) (by omega) hok.1 hok.2.2 hKq (by rw [List.length_cons, hpl]) ⟨by rw [hpl]; exact hPs, hPa⟩
      exact ⟨v', pa', ⟨s, hs, q, hq, hE⟩, h1, h2, h3, h4⟩
    by_cases f0 : w (b + 1) (pl w d) = 0
    · have hx := hX d hdE f0
      refine go (X d) ?_ ((hP d hdE).1 f0) (fun _ => hx)
      unfold cnd
      rw [if_pos f0]
      have hr := hA.2.2.2.2.1 (X d) hx.1
      have e : (w (b + 2) (pl w d)).toNat = ρ (X d) := by omega
      rw [e]
      exact (hA.2.2.2.1 _ _ hr.1).mpr ⟨hx.1, rfl⟩
    · refine go 0 ?_ ((hP d hdE).2 f0) (fun e => absurd e f0)
      unfold cnd
      rw [if_neg f0]
      exact List.mem_singleton.mpr rfl
