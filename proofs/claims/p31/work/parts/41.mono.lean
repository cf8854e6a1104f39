/-! MEANING: assignments, what holds; a larger set of tuples gives no less -/
def tv (σ : Nat → Nat) (t : Int) : Nat := if t < 0 then σ (-1 - t).toNat else t.toNat
def tc (σ : Nat → Nat) (f : Nat → Int) : Nat := pk (tv σ (f 0)) (tv σ (f 1)) (tv σ (f 2))
def VA (σ : Nat → Nat) : Prop := ∀ v, σ v < 128
abbrev MM : Type := Int → Nat → Prop
def cmpk (how : Int) (a b : Nat) : Prop := if how = 0 then a = b else if how = 1 then a ≠ b else if how = 2 then a < b else a ≤ b
def lit (M : MM) (R : RU) (σ : Nat → Nat) (p : Nat) : Prop :=
  if R.fm p = 0 then M (R.sj p) (tc σ (R.tm p)) else if R.fm p = 1 then ¬ M (R.sj p) (tc σ (R.tm p)) else if R.fm p = 2 then cmpk (R.sj p) (tv σ (R.tm p 0)) (tv σ (R.tm p 1)) else tv σ (R.tm p 0) = min 127 (tv σ (R.tm p 1) + tv σ (R.tm p 2))
def Sat (M : MM) (R : RU) (σ : Nat → Nat) : Prop := VA σ ∧ ∀ p, p < R.ln → lit M R σ p
def lastle (k : Nat) (x y : Nat) : Prop := (k = 0 → x = y) ∧ (k = 1 → y ≤ x) ∧ (k = 2 → x ≤ y) ∧ (k = 3 → x ||| y = y)
/-- n says no more than m -/
def le (D : SH) (r : Int) (n m : Nat) : Prop := kz (D.kq r) n = kz (D.kq r) m ∧ lastle (D.ki r) (lastc (D.co r) n) (lastc (D.co r) m)
theorem lastle_rfl {k x : Nat} : lastle k x x := ⟨fun _ => rfl, fun _ => Nat.le_refl _, fun _ => Nat.le_refl _, fun _ => Nat.or_self x⟩
theorem le_rfl {D : SH} {r : Int} {n : Nat} : le D r n n := ⟨rfl, lastle_rfl⟩
theorem lastle_trans {k x y z : Nat} (h : lastle k x y) (h' : lastle k y z) : lastle k x z := ⟨fun e => (h.1 e).trans (h'.1 e), fun e => Nat.le_trans (h'.2.1 e) (h.2.1 e), fun e => Nat.le_trans (h.2.2.1 e) (h'.2.2.1 e), fun e => by
  rw [← h'.2.2.2 e, ← Nat.or_assoc, h.2.2.2 e]⟩
theorem le_trans' {D : SH} {r : Int} {n m o : Nat} (h : le D r n m) (h' : le D r m o) : le D r n o := ⟨h.1.trans h'.1, lastle_trans h.2 h'.2⟩
theorem lastle_anti {k x y : Nat} (hk : k ≤ 3) (h : lastle k x y) (h' : lastle k y x) : x = y := by
  have : k = 0 ∨ k = 1 ∨ k = 2 ∨ k = 3 := by omega
  rcases this with e | e | e | e
  · exact h.1 e
  · exact Nat.le_antisymm (h'.2.1 e) (h.2.1 e)
  · exact Nat.le_antisymm (h.2.2.1 e) (h'.2.2.1 e)
  · rw [← h'.2.2.2 e, Nat.or_comm, h.2.2.2 e]
/-- key and last column make the tuple -/
theorem kz_last {k n m : Nat} (hk : k = 1 ∨ k = 2 ∨ k = 3) (hn : n < 2097152) (hm : m < 2097152) (h : kz k n = kz k m) (h2 : lastc k n = lastc k m) : n = m := by
  rcases hk with rfl | rfl | rfl
  · have a : n % 16384 = m % 16384 := h
    have b : n / 16384 % 128 = m / 16384 % 128 := h2
    omega
  · have a : n / 16384 * 16384 + n % 128 = m / 16384 * 16384 + m % 128 := h
    have b : n / 128 % 128 = m / 128 % 128 := h2
    omega
  · have a : n / 128 * 128 = m / 128 * 128 := h
    have b : n % 128 = m % 128 := h2
    omega
theorem kz_0 {n : Nat} : kz 0 n = n := rfl
theorem le_anti {D : SH} (hD : WfD D) {r : Int} (hc : 1 ≤ D.co r) {n m : Nat} (hn : n < 2097152) (hm : m < 2097152) (h : le D r n m) (h' : le D r m n) : n = m := by
  by_cases e : D.ki r = 0
  · have h1 := h.1
    unfold SH.kq at h1
    rw [if_pos e] at h1
    exact h1
  · have h1 := h.1
    unfold SH.kq at h1
    rw [if_neg e] at h1
    have hc3 := (hD r).1
    exact kz_last (by omega) hn hm h1 (lastle_anti (hD r).2 h.2 h'.2)
theorem tv_lt {σ : Nat → Nat} (h : VA σ) {t : Int} (ht : t < 128) : tv σ t < 128 := by
  unfold tv
  split
  · exact h _
  · omega
theorem tc_lt {σ : Nat → Nat} (h : VA σ) {f : Nat → Int} (hf : ∀ c, c < 3 → f c < 128) : tc σ f < 2097152 := pkq_lt (tv_lt h (hf 0 (by omega))) (tv_lt h (hf 1 (by omega))) (tv_lt h (hf 2 (by omega)))
theorem lastc_lt {k n : Nat} : lastc k n < 128 := by unfold lastc cl0 cl1 cl2; split; omega; split <;> omega
theorem lastc_pk {k a b c : Nat} (ha : a < 128) (hb : b < 128) (hc : c < 128) : lastc k (pk a b c) = if k = 1 then a else if k = 2 then b else c := by
  unfold lastc
  rw [cl0_pk ha hb hc, cl1_pk ha hb hc, cl2_pk ha hb hc]
theorem lastc_tc {D : SH} {r : Int} {σ : Nat → Nat} {f : Nat → Int} (h : VA σ) (hf : ∀ c, c < 3 → f c < 128) (hk : 1 ≤ D.co r) (hD : WfD D) : lastc (D.co r) (tc σ f) = tv σ (f (D.co r - 1)) := by
  unfold tc
  rw [lastc_pk (tv_lt h (hf 0 (by omega))) (tv_lt h (hf 1 (by omega))) (tv_lt h (hf 2 (by omega)))]
  have := (hD r).1
  have : D.co r = 1 ∨ D.co r = 2 ∨ D.co r = 3 := by omega
  rcases this with e | e | e <;> rw [e] <;> rfl
/-- a tuple with its last column changed -/
theorem tc_last {k : Nat} {σ σ' : Nat → Nat} {f : Nat → Int} {m : Nat} (hk : k = 1 ∨ k = 2 ∨ k = 3) (hσ : VA σ) (hσ' : VA σ') (hf : ∀ c, c < 3 → f c < 128) (hm : m < 2097152) (hz : kz k (tc σ f) = kz k m) (hs : ∀ c, c < 3 → c ≠ k - 1 → tv σ' (f c) = tv σ (f c)) (hl : tv σ' (f (k - 1)) = lastc k m) : tc σ' f = m := by
  have a0 := tv_lt hσ (hf 0 (by omega)); have a1 := tv_lt hσ (hf 1 (by omega)); have a2 := tv_lt hσ (hf 2 (by omega))
  have b0 := tv_lt hσ' (hf 0 (by omega)); have b1 := tv_lt hσ' (hf 1 (by omega)); have b2 := tv_lt hσ' (hf 2 (by omega))
  refine kz_last hk (tc_lt hσ' hf) hm ?_ ?_
  · rw [← hz]
    unfold tc
    rw [kz_pk hk a0 a1 a2, kz_pk hk b0 b1 b2]
    rcases hk with rfl | rfl | rfl
    · rw [if_pos rfl, if_pos rfl, hs 1 (by omega) (by omega), hs 2 (by omega) (by omega)]
    · rw [hs 0 (by omega) (by omega), hs 2 (by omega) (by omega)]; rfl
    · rw [hs 0 (by omega) (by omega), hs 1 (by omega) (by omega)]; rfl
  · unfold tc
    rw [lastc_pk b0 b1 b2]
    rcases hk with rfl | rfl | rfl <;> exact hl
/-- heads alike but for the last column -/
theorem le_tc {D : SH} (hD : WfD D) {r : Int} {σ σ' : Nat → Nat} {f : Nat → Int} (hk : 1 ≤ D.co r) (hσ : VA σ) (hσ' : VA σ') (hf : ∀ c, c < 3 → f c < 128) (hs : ∀ c, c < 3 → c ≠ D.co r - 1 → tv σ' (f c) = tv σ (f c)) (hl : lastle (D.ki r) (tv σ (f (D.co r - 1))) (tv σ' (f (D.co r - 1)))) : le D r (tc σ f) (tc σ' f) := by
  have a0 := tv_lt hσ (hf 0 (by omega)); have a1 := tv_lt hσ (hf 1 (by omega)); have a2 := tv_lt hσ (hf 2 (by omega))
  have b0 := tv_lt hσ' (hf 0 (by omega)); have b1 := tv_lt hσ' (hf 1 (by omega)); have b2 := tv_lt hσ' (hf 2 (by omega))
  have hc3 := (hD r).1
  refine ⟨?_, by rw [lastc_tc hσ hf hk hD, lastc_tc hσ' hf hk hD]; exact hl⟩
  have hk3 : D.co r = 1 ∨ D.co r = 2 ∨ D.co r = 3 := by omega
  by_cases e : D.ki r = 0
  · have he := hl.1 e
    have hall : tc σ f = tc σ' f := by
      have key : ∀ c, c < 3 → tv σ (f c) = tv σ' (f c) := fun c hc => by
        by_cases q : c = D.co r - 1
        · rw [q]; exact he
        · exact (hs c hc q).symm
      unfold tc
      rw [key 0 (by omega), key 1 (by omega), key 2 (by omega)]
    rw [hall]
  · unfold SH.kq
    rw [if_neg e]
    unfold tc
    rw [kz_pk hk3 a0 a1 a2, kz_pk hk3 b0 b1 b2]
    rcases hk3 with e1 | e1 | e1 <;> rw [e1] at hs ⊢
    · rw [if_pos rfl, if_pos rfl, hs 1 (by omega) (by omega), hs 2 (by omega) (by omega)]
    · rw [hs 0 (by omega) (by omega), hs 2 (by omega) (by omega)]; rfl
    · rw [hs 0 (by omega) (by omega), hs 1 (by omega) (by omega)]; rfl
/-- what holds, but that a growing atom may have been read from a smaller tuple -/
def wlit (D : SH) (M : MM) (R : RU) (σ : Nat → Nat) (p : Nat) : Prop :=
  if R.fm p = 0 then M (R.sj p) (tc σ (R.tm p)) ∨ (D.ki (R.sj p) ≠ 0 ∧ Gr D R p ∧ ∃ m, M (R.sj p) m ∧ le D (R.sj p) (tc σ (R.tm p)) m) else lit M R σ p
theorem mono {D : SH} {R : RU} {M : MM} {σ : Nat → Nat} (hD : WfD D) (hR : WfR D R) (hM : ∀ r m, M r m → m < 2097152) (hσ : VA σ) (hw : ∀ p, p < R.ln → wlit D M R σ p) : ∃ σ', Sat M R σ' ∧ le D R.tg (tc σ R.ht) (tc σ' R.ht) := by
  classical
  have hat := hR.2.2.1
  have htm := hR.2.2.2.2.2.1
  have hht := hR.2.2.2.2.2.2
  have htg := hR.2.2.2.2.1
  have tml : ∀ p, p < R.ln → ∀ c, c < 3 → R.tm p c < 128 := fun p hp c hc => (htm p c hp hc).2
  have htl : ∀ c, c < 3 → R.ht c < 128 := fun c hc => (hht c hc).2
  let vp : Nat → Int := fun p => R.tm p (D.co (R.sj p) - 1)
  let G : Nat → Prop := fun p => p < R.ln ∧ R.fm p = 0 ∧ D.ki (R.sj p) ≠ 0 ∧ Gr D R p ∧ ∃ m, M (R.sj p) m ∧ le D (R.sj p) (tc σ (R.tm p)) m
  have hN : ∀ p, ∃ m, G p → M (R.sj p) m ∧ le D (R.sj p) (tc σ (R.tm p)) m := fun p => by
    by_cases h : G p
    · obtain ⟨m, hm⟩ := h.2.2.2.2
      exact ⟨m, fun _ => hm⟩
    · exact ⟨0, fun h' => absurd h' h⟩
  obtain ⟨nm, hnm⟩ := Classical.axiomOfChoice hN
  let σ1 : Nat → Nat := fun v => if h : ∃ p, G p ∧ vp p = -1 - (v : Int) then lastc (D.co (R.sj h.choose)) (nm h.choose) else σ v
  have hσ1 : VA σ1 := fun v => by
    show (if h : ∃ p, G p ∧ vp p = -1 - (v : Int) then lastc (D.co (R.sj h.choose)) (nm h.choose) else σ v) < 128
    split
    · exact lastc_lt
    · exact hσ v
  have gneg : ∀ p, G p → vp p < 0 := fun p h => h.2.2.2.1.1
  have guni : ∀ p p', G p → G p' → vp p' = vp p → p' = p := fun p p' h h' e => by
    have hc3 := (hD (R.sj p')).1
    have hc1 := (hat p' h'.1 (by rw [h'.2.1]; decide)).1
    rcases gr_b hD hR h.1 h.2.1 h.2.2.2.1 h'.1 (show D.co (R.sj p') - 1 < 3 by omega) e with q | q
    · exact q.1
    · rw [h'.2.1] at q; exact absurd q.1 (by decide)
  have c3 : ∀ p, G p → tv σ1 (vp p) = lastc (D.co (R.sj p)) (nm p) := fun p h => by
    have hn := gneg p h
    have hex : ∃ p', G p' ∧ vp p' = -1 - (((-1 - vp p).toNat : Nat) : Int) := ⟨p, h, by omega⟩
    have e : hex.choose = p := guni p hex.choose h hex.choose_spec.1 (by have := hex.choose_spec.2; omega)
    show (if vp p < 0 then σ1 (-1 - vp p).toNat else (vp p).toNat) = _
    rw [if_pos hn]
    show (if h : ∃ p', G p' ∧ vp p' = -1 - (((-1 - vp p).toNat : Nat) : Int) then lastc (D.co (R.sj h.choose)) (nm h.choose) else σ _) = _
    rw [dif_pos hex, e]
  have c2 : ∀ t : Int, (∀ p, G p → t ≠ vp p) → tv σ1 t = tv σ t := fun t h => by
    unfold tv
    by_cases hn : t < 0
    · rw [if_pos hn, if_pos hn]
      have hex : ¬ ∃ p', G p' ∧ vp p' = -1 - (((-1 - t).toNat : Nat) : Int) := fun ⟨p', h', e⟩ => h p' h' (by omega)
      show (if h : ∃ p', G p' ∧ vp p' = -1 - (((-1 - t).toNat : Nat) : Int) then lastc (D.co (R.sj h.choose)) (nm h.choose) else σ _) = _
      rw [dif_neg hex]
    · rw [if_neg hn, if_neg hn]
  let S : Nat → Prop := fun q => q < R.ln ∧ R.fm q = 3 ∧ ∃ p, G p ∧ (R.tm q 1 = vp p ∨ R.tm q 2 = vp p)
  have sfact : ∀ q, S q → R.tm q 0 < 0 ∧ R.ht (D.co R.tg - 1) = R.tm q 0 ∧ mn R (R.tm q 0) = 2 ∧ (D.ki R.tg ≠ 0 ∧ D.ki R.tg ≠ 3) := fun q ⟨hq, hf, p, hp, hh⟩ => by
    rcases hh with hh | hh
    · rcases gr_b hD hR hp.1 hp.2.1 hp.2.2.2.1 hq (show 1 < 3 by omega) hh with z | z
      · rw [z.1, hp.2.1] at hf; exact absurd hf (by decide)
      · exact ⟨z.2.2.1, z.2.2.2.1, z.2.2.2.2.1, by rw [z.2.2.2.2.2.1]; exact hp.2.2.1, by rw [z.2.2.2.2.2.1]; exact z.2.2.2.2.2.2⟩
    · rcases gr_b hD hR hp.1 hp.2.1 hp.2.2.2.1 hq (show 2 < 3 by omega) hh with z | z
      · rw [z.1, hp.2.1] at hf; exact absurd hf (by decide)
      · exact ⟨z.2.2.1, z.2.2.2.1, z.2.2.2.2.1, by rw [z.2.2.2.2.2.1]; exact hp.2.2.1, by rw [z.2.2.2.2.2.1]; exact z.2.2.2.2.2.2⟩
  -- where such terms stand
  have posG : ∀ p, G p → ∀ p' c, p' < R.ln → c < 3 → R.tm p' c = vp p → (p' = p ∧ c = D.co (R.sj p) - 1) ∨ (R.fm p' = 3 ∧ (c = 1 ∨ c = 2)) := fun p h p' c hp' hc e => by
    rcases gr_b hD hR h.1 h.2.1 h.2.2.2.1 hp' hc e with z | z
    · exact Or.inl z
    · exact Or.inr ⟨z.1, z.2.1⟩
  have posS : ∀ q, S q → ∀ p' c, p' < R.ln → c < 3 → R.tm p' c = R.tm q 0 → p' = q ∧ c = 0 := fun q h p' c hp' hc e => su_b hD hR h.1 (sfact q h).2.1 (sfact q h).2.2.1 hp' hc e
  let σ' : Nat → Nat := fun v => if h : ∃ q, S q ∧ R.tm q 0 = -1 - (v : Int) then min 127 (tv σ1 (R.tm h.choose 1) + tv σ1 (R.tm h.choose 2)) else σ1 v
  have hσ' : VA σ' := fun v => by
    show (if h : ∃ q, S q ∧ R.tm q 0 = -1 - (v : Int) then min 127 (tv σ1 (R.tm h.choose 1) + tv σ1 (R.tm h.choose 2)) else σ1 v) < 128
    split
    · exact Nat.lt_of_le_of_lt (Nat.min_le_left _ _) (by omega)
    · exact hσ1 v
  have d2 : ∀ t : Int, (∀ q, S q → t ≠ R.tm q 0) → tv σ' t = tv σ1 t := fun t h => by
    unfold tv
    by_cases hn : t < 0
    · rw [if_pos hn, if_pos hn]
      have hex : ¬ ∃ q, S q ∧ R.tm q 0 = -1 - (((-1 - t).toNat : Nat) : Int) := fun ⟨q, h', e⟩ => h q h' (by omega)
      show (if h : ∃ q, S q ∧ R.tm q 0 = -1 - (((-1 - t).toNat : Nat) : Int) then min 127 (tv σ1 (R.tm h.choose 1) + tv σ1 (R.tm h.choose 2)) else σ1 _) = _
      rw [dif_neg hex]
    · rw [if_neg hn, if_neg hn]
  have d3 : ∀ q, S q → tv σ' (R.tm q 0) = min 127 (tv σ1 (R.tm q 1) + tv σ1 (R.tm q 2)) := fun q h => by
    have hn := (sfact q h).1
    have hex : ∃ q', S q' ∧ R.tm q' 0 = -1 - (((-1 - R.tm q 0).toNat : Nat) : Int) := ⟨q, h, by omega⟩
    have e : hex.choose = q := (posS q h hex.choose 0 hex.choose_spec.1.1 (by omega) (by have := hex.choose_spec.2; omega)).1
    show (if R.tm q 0 < 0 then σ' (-1 - R.tm q 0).toNat else (R.tm q 0).toNat) = _
    rw [if_pos hn]
    show (if h : ∃ q', S q' ∧ R.tm q' 0 = -1 - (((-1 - R.tm q 0).toNat : Nat) : Int) then min 127 (tv σ1 (R.tm h.choose 1) + tv σ1 (R.tm h.choose 2)) else σ1 _) = _
    rw [dif_pos hex, e]
  -- a term that neither grows nor is such a sum is as it was
  have same : ∀ t : Int, (∀ p, G p → t ≠ vp p) → (∀ q, S q → t ≠ R.tm q 0) → tv σ' t = tv σ t := fun t h1 h2 => (d2 t h2).trans (c2 t h1)
  have ns : ∀ p, G p → ∀ q, S q → vp p ≠ R.tm q 0 := fun p h q h' e => by
    rcases posG p h q 0 h'.1 (by omega) e.symm with z | z
    · have := h'.2.1; rw [z.1, h.2.1] at this; exact absurd this (by decide)
    · omega
  have tG : ∀ p, G p → tv σ' (vp p) = lastc (D.co (R.sj p)) (nm p) := fun p h => (d2 _ (fun q h' => ns p h q h')).trans (c3 p h)
  -- how growing terms grow
  have growG : ∀ p, G p → lastle (D.ki (R.sj p)) (tv σ (vp p)) (tv σ' (vp p)) := fun p h => by
    have hc1 := (hat p h.1 (by rw [h.2.1]; decide)).1
    have h2 := (hnm p h).2.2
    rw [lastc_tc hσ (tml p h.1) hc1 hD] at h2
    rw [tG p h]
    exact h2
  have kindG : ∀ p, G p → ∀ q, S q → (R.tm q 1 = vp p ∨ R.tm q 2 = vp p) → D.ki R.tg = D.ki (R.sj p) := fun p h q h' hh => by
    rcases hh with hh | hh
    · rcases gr_b hD hR h.1 h.2.1 h.2.2.2.1 h'.1 (show 1 < 3 by omega) hh with z | z
      · have := h'.2.1; rw [z.1, h.2.1] at this; exact absurd this (by decide)
      · exact z.2.2.2.2.2.1
    · rcases gr_b hD hR h.1 h.2.1 h.2.2.2.1 h'.1 (show 2 < 3 by omega) hh with z | z
      · have := h'.2.1; rw [z.1, h.2.1] at this; exact absurd this (by decide)
      · exact z.2.2.2.2.2.1
  -- the parts of such a sum
  have part : ∀ q, S q → ∀ c, c = 1 ∨ c = 2 → tv σ' (R.tm q c) = tv σ1 (R.tm q c) ∧ lastle (D.ki R.tg) (tv σ (R.tm q c)) (tv σ' (R.tm q c)) := fun q h c hc => by
    have e1 : ∀ q', S q' → R.tm q c ≠ R.tm q' 0 := fun q' h' e => by
      have := posS q' h' q c h.1 (by omega) e
      omega
    refine ⟨d2 _ e1, ?_⟩
    by_cases hg : ∃ p, G p ∧ R.tm q c = vp p
    · obtain ⟨p, hp, e⟩ := hg
      have hk := kindG p hp q h (by rcases hc with rfl | rfl; exact Or.inl e; exact Or.inr e)
      rw [e, hk]
      exact growG p hp
    · rw [same _ (fun p hp e => hg ⟨p, hp, e⟩) e1]
      exact lastle_rfl
  refine ⟨σ', ⟨hσ', fun p hp => ?_⟩, ?_⟩
  · have hwp := hw p hp
    have htp := tml p hp
    unfold wlit at hwp
    unfold lit
    -- unchanged atoms and comparisons
    have unch : R.fm p ≠ 3 → ¬ G p → ∀ c, c < 3 → tv σ' (R.tm p c) = tv σ (R.tm p c) := fun h3 hng c hc => same _
      (fun p' h' e => by
        rcases posG p' h' p c hp hc e with z | z
        · exact hng (z.1 ▸ h')
        · exact h3 z.1)
      (fun q h' e => by
        have := posS q h' p c hp hc e
        exact h3 (this.1 ▸ h'.2.1))
    have unchT : R.fm p ≠ 3 → ¬ G p → tc σ' (R.tm p) = tc σ (R.tm p) := fun h3 hng => by
      unfold tc
      rw [unch h3 hng 0 (by omega), unch h3 hng 1 (by omega), unch h3 hng 2 (by omega)]
    by_cases f0 : R.fm p = 0
    · rw [if_pos f0] at hwp ⊢
      by_cases hg : G p
      · have hc1 := (hat p hp (by rw [f0]; decide)).1
        have hc3 := (hD (R.sj p)).1
        have hk := (hnm p hg).2.1
        unfold SH.kq at hk
        rw [if_neg hg.2.2.1] at hk
        have e : tc σ' (R.tm p) = nm p := tc_last (k := D.co (R.sj p)) (by omega) hσ hσ' htp (hM _ _ (hnm p hg).1) hk
          (fun c hc hne => same _
            (fun p' h' e => by
              rcases posG p' h' p c hp hc e with z | z
              · exact hne (by rw [z.2, z.1])
              · rw [f0] at z; exact absurd z.1 (by decide))
            (fun q h' e => by
              have z := posS q h' p c hp hc e
              have := h'.2.1
              rw [← z.1, f0] at this
              exact absurd this (by decide)))
          (tG p hg)
        rw [e]
        exact (hnm p hg).1
      · rcases hwp with h | h
        · rw [unchT (by rw [f0]; decide) hg]
          exact h
        · exact absurd ⟨hp, f0, h⟩ hg
    · rw [if_neg f0] at hwp ⊢
      have hng : ¬ G p := fun h => f0 h.2.1
      unfold lit at hwp
      rw [if_neg f0] at hwp
      by_cases f1 : R.fm p = 1
      · rw [if_pos f1] at hwp ⊢
        rw [unchT (by rw [f1]; decide) hng]
        exact hwp
      · rw [if_neg f1] at hwp ⊢
        by_cases f2 : R.fm p = 2
        · rw [if_pos f2] at hwp ⊢
          rw [unch (by rw [f2]; decide) hng 0 (by omega), unch (by rw [f2]; decide) hng 1 (by omega)]
          exact hwp
        · rw [if_neg f2] at hwp ⊢
          have f3 : R.fm p = 3 := by have := hR.2.1 p hp; omega
          by_cases hs : S p
          · rw [d3 p hs, (part p hs 1 (Or.inl rfl)).1, (part p hs 2 (Or.inr rfl)).1]
          · have e1 : ∀ c, c < 3 → tv σ' (R.tm p c) = tv σ (R.tm p c) := fun c hc => same _
              (fun p' h' e => by
                rcases posG p' h' p c hp hc e with z | z
                · rw [z.1, h'.2.1] at f3; exact absurd f3 (by decide)
                · refine hs ⟨hp, f3, p', h', ?_⟩
                  rcases z.2 with rfl | rfl
                  · exact Or.inl e
                  · exact Or.inr e)
              (fun q h' e => by
                have z := posS q h' p c hp hc e
                exact hs (z.1 ▸ h'))
            rw [e1 0 (by omega), e1 1 (by omega), e1 2 (by omega)]
            exact hwp
  · -- the head
    refine le_tc hD htg.1 hσ hσ' htl (fun c hc hne => same _
      (fun p h e => by
        have z := gr_h hD hR h.1 h.2.1 h.2.2.2.1 hc e
        exact hne z.1)
      (fun q h e => hne (su_h hD hR h.1 (sfact q h).2.1 (sfact q h).2.2.1 hc e))) ?_
    have hcl : D.co R.tg - 1 < 3 := by have := (hD R.tg).1; omega
    by_cases hg : ∃ p, G p ∧ R.ht (D.co R.tg - 1) = vp p
    · obtain ⟨p, hp, e⟩ := hg
      have z := gr_h hD hR hp.1 hp.2.1 hp.2.2.2.1 hcl e
      rw [e, z.2]
      exact growG p hp
    · by_cases hs : ∃ q, S q ∧ R.ht (D.co R.tg - 1) = R.tm q 0
      · obtain ⟨q, hq, e⟩ := hs
        have hk := (sfact q hq).2.2.2
        have hold : tv σ (R.tm q 0) = min 127 (tv σ (R.tm q 1) + tv σ (R.tm q 2)) := by
          have h := hw q hq.1
          unfold wlit lit at h
          rw [if_neg (by rw [hq.2.1]; decide), if_neg (by rw [hq.2.1]; decide), if_neg (by rw [hq.2.1]; decide), if_neg (by rw [hq.2.1]; decide)] at h
          exact h
        have p1 := (part q hq 1 (Or.inl rfl))
        have p2 := (part q hq 2 (Or.inr rfl))
        rw [e, d3 q hq, hold, ← p1.1, ← p2.1]
        have a1 := p1.2
        have a2 := p2.2
        refine ⟨fun h => absurd h hk.1, fun h => ?_, fun h => ?_, fun h => absurd h hk.2⟩
        · have := a1.2.1 h; have := a2.2.1 h; omega
        · have := a1.2.2.1 h; have := a2.2.2.1 h; omega
      · rw [same _ (fun p hp e => hg ⟨p, hp, e⟩) (fun q hq e => hs ⟨q, hq, e⟩)]
        exact lastle_rfl
