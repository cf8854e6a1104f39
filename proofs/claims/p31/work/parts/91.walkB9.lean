/-! THE REFERENCE'S WALK: tries -/
def RBB (w : World) (ru : Nat) : RU := ((w 16 ru).toNat, fun p => w 17 (5 * ru + p), fun p => w 18 (5 * ru + p), fun p c => w 19 (3 * (5 * ru + p) + c), w 14 ru, fun c => w 15 (3 * ru + c))
theorem RBB_congr {w w' : World} (h : ∀ c, 14 ≤ c → c ≤ 19 → w' c = w c) (ru : Nat) : RBB w' ru = RBB w ru := by
  unfold RBB
  rw [h 14 (by omega) (by omega), h 15 (by omega) (by omega), h 16 (by omega) (by omega), h 17 (by omega) (by omega), h 18 (by omega) (by omega), h 19 (by omega) (by omega)]
theorem SA_c5 {w w' : World} (h : ∀ c, 3 ≤ c → c ≤ 5 → w' c = w c) : SA w' = SA w := by
  unfold SA
  rw [h 3 (by omega) (by omega), h 4 (by omega) (by omega), h 5 (by omega) (by omega)]
/-- what a walk of the reference goes through -/
def WkB (w : World) (ru M E n : Nat) (ρ c : Nat → Nat) : Prop := ru < 19 ∧ WfT w ∧ BMod w M n ρ c ∧ n ≤ 48 ∧ WkQ (SA w) (RBB w ru) E ∧ SlQ (SA w) n ρ c
/-- the places that are still to be tried -/
def cand (R : RU) (n d k : Nat) : List Nat := if R.fm d = 0 then List.range' k (n - k) else if k = 0 then [0] else []
theorem uw_24 {w : World} {own : Int} {v : Nat} : uw w own 24 v = if v < 8 ∧ w 24 v = own then -9 else w 24 v := by
  show (if 24 = 24 ∧ v < 8 ∧ w 24 v = own then (-9 : Int) else w 24 v) = _
  by_cases q : v < 8 ∧ w 24 v = own
  · rw [if_pos ⟨rfl, q⟩, if_pos q]
  · rw [if_neg (fun z => q z.2), if_neg q]
theorem uw_fr {w : World} {own : Int} {c : Nat} (h : c ≠ 24) : uw w own c = w c := by
  funext k
  show (if c = 24 ∧ k < 8 ∧ w 24 k = own then (-9 : Int) else w c k) = w c k
  rw [if_neg (fun z => h z.1)]
theorem uw_no {w : World} {own : Int} (ho : own ≠ -9) (v : Nat) (hv : v < 8) : uw w own 24 v ≠ own := by
  rw [uw_24]
  by_cases q : w 24 v = own
  · rw [if_pos ⟨hv, q⟩]; exact fun e => ho e.symm
  · rw [if_neg (fun z => q z.2)]; exact q
theorem gB_AM {w : World} {at' n r co : Nat} {ρ c : Nat → Nat} {vs : Nat → Int} (hvs : vB w = vs) (hco3 : co ≤ 3) (hsl : ∀ s, s < n → ρ s = r → c s < 2097152 ∧ ∀ j, co ≤ j → j < 3 → clm (c s) j = 0) (h0 : ∀ j, j < 3 → co ≤ j → w 19 (3 * at' + j) = 0) (hvl : ∀ j, j < 3 → 0 ≤ vl vs (w 19 (3 * at' + j)) ∧ vl vs (w 19 (3 * at' + j)) < 128) : (∃ s, s < n ∧ gB w at' co r ρ c s) ↔ AM n ρ c (r : Int) (tc (sg vs) (fun j => w 19 (3 * at' + j))) := by
  have v0 := hvl 0 (by omega); have v1 := hvl 1 (by omega); have v2 := hvl 2 (by omega)
  have key : ∀ s, s < n → (gB w at' co r ρ c s ↔ ρ s = r ∧ c s = tc (sg vs) (fun j => w 19 (3 * at' + j))) := fun s hs => by
    have htc : tc (sg vs) (fun j => w 19 (3 * at' + j)) = pk (vl vs (w 19 (3 * at' + 0))).toNat (vl vs (w 19 (3 * at' + 1))).toNat (vl vs (w 19 (3 * at' + 2))).toNat := by
      unfold tc
      rw [tv_sg, tv_sg, tv_sg]
    unfold gB
    rw [hvs]
    refine and_congr_right (fun hρ => ?_)
    obtain ⟨hc, hz⟩ := hsl s hs hρ
    constructor
    · intro h
      have e : ∀ j, j < 3 → clm (c s) j = (vl vs (w 19 (3 * at' + j))).toNat := fun j hj => by
        by_cases q : j < co
        · have := h j q; omega
        · rw [hz j (by omega) hj, h0 j hj (by omega)]
          rfl
      rw [htc, ← e 0 (by omega), ← e 1 (by omega), ← e 2 (by omega)]
      exact (clm_pk hc).symm
    · intro h j hj
      rw [h, htc]
      have : j = 0 ∨ j = 1 ∨ j = 2 := by omega
      rcases this with rfl | rfl | rfl
      · show ((cl0 _ : Nat) : Int) = _
        rw [cl0_pk (by omega) (by omega) (by omega)]; omega
      · show ((cl1 _ : Nat) : Int) = _
        rw [cl1_pk (by omega) (by omega) (by omega)]; omega
      · show ((cl2 _ : Nat) : Int) = _
        rw [cl2_pk (by omega) (by omega) (by omega)]; omega
  constructor
  · rintro ⟨s, hs, h⟩
    have := (key s hs).mp h
    exact ⟨s, hs, by rw [this.1], this.2⟩
  · rintro ⟨s, hs, h1, h2⟩
    exact ⟨s, hs, (key s hs).mpr ⟨by omega, h2⟩⟩
theorem scan1 {O : Nat → Option ((Nat → Int) × Nat)} : scan O [0] = match O 0 with | some q => some (0, q, []) | none => none := by
  unfold scan
  cases O 0 with
  | none => rfl
  | some q => rfl
theorem tries_n {w : World} {ru d M E n k : Nat} {ρ c : Nat → Nat} (hC : WkB w ru M E n ρ c) (hd : d < E) (hV : VB w) (hcov : CovQ (RBB w ru) d (vB (uw w (d : Int)))) (hk : w 25 d = (k : Int)) (hkn : (RBB w ru).fm d = 0 → k ≤ n) :
    match scan (oq (SA w) (AM n ρ c) (RBB w ru) ρ c d (vB (uw w (d : Int)))) (cand (RBB w ru) n d k) with
    | none => ∃ w2, f_Re_tries w (ru : Int) (d : Int) (M : Int) = some (w2, 0) ∧ EqC d (uw w (d : Int)) w2 ∧ VB w2
    | some (s, q, _) => ∃ w2, f_Re_tries w (ru : Int) (d : Int) (M : Int) = some (w2, 1) ∧ w2 25 d = (s : Int) + 1 ∧ BnC d (d : Int) (uw w (d : Int)) w2 q.2 ∧ VB w2 ∧ vB w2 = q.1 := by
  obtain ⟨hru, hT, hB, hn48, hQ, hSl⟩ := hC
  have hE5 := hQ.1
  have hM := hB.1
  obtain ⟨htm, hfm, hsj⟩ := hQ.2.1 d hd
  have hn9 : ((d : Nat) : Int) ≠ -9 := by omega
  obtain ⟨u, hu⟩ : ∃ u, u = uw w (d : Int) := ⟨_, rfl⟩
  rw [← hu] at hcov ⊢
  have fu : ∀ c0, c0 ≠ 24 → u c0 = w c0 := fun c0 h => by rw [hu]; exact uw_fr h
  have hVu : VB u := by rw [hu]; exact uw_VB hV
  have hno : ∀ v, v < 8 → u 24 v ≠ (d : Int) := fun v hv => by rw [hu]; exact uw_no hn9 v hv
  have hBu : BMod u M n ρ c := BMod_congr (fun k hk => fu k (by omega)) hB
  have hVV := hVu.vv
  have i1 : wr ((wr (5 * (ru : Int))) + (d : Int)) = ((5 * ru + d : Nat) : Int) := by
    rw [wr_of (x := 5 * (ru : Int)) ⟨by omega, by omega⟩, wr_of (x := 5 * (ru : Int) + (d : Int)) ⟨by omega, by omega⟩]
    omega
  have e17 : u 17 (5 * ru + d) = (RBB w ru).fm d := by rw [fu 17 (by decide)]; rfl
  have e18 : u 18 (5 * ru + d) = (RBB w ru).sj d := by rw [fu 18 (by decide)]; rfl
  have e19 : ∀ j, u 19 (3 * (5 * ru + d) + j) = (RBB w ru).tm d j := fun j => by rw [fu 19 (by decide)]; rfl
  have e25 : u 25 d = (k : Int) := by rw [fu 25 (by decide)]; exact hk
  have hun : f_Re_unbind w (d : Int) = some u := by rw [hu]; exact unbind_b hn9
  by_cases f0 : (RBB w ru).fm d = 0
  · obtain ⟨r, hr, hr10, hr1, hr3, hz⟩ := hsj (by omega)
    have hkn := hkn f0
    have hco : w 3 r = (((SA w).co (r : Int) : Nat) : Int) := by
      rw [SA_co hr10]
      have := (hT r hr10).1
      omega
    have h := triesB_loop (own := (d : Int)) (d := d) (at' := 5 * ru + d) (M := M) (n := n) (r := r) (co := (SA w).co (r : Int)) (ρ := ρ) (c := c) rfl (by omega) (by omega) hr10 hr3 (n - k) k u (by omega) e25 hBu hVu hno (by rw [e18]; exact hr) (by rw [fu 3 (by decide)]; exact hco) (fun c0 hc0 => by rw [e19]; exact htm c0 hc0)
    have hO : oq (SA w) (AM n ρ c) (RBB w ru) ρ c d (vB u) = tB u (5 * ru + d) ((SA w).co (r : Int)) r ρ c (vB u) := by
      funext s
      have e19' : (fun j => u 19 (3 * (5 * ru + d) + j)) = (RBB w ru).tm d := funext e19
      unfold oq tq tB
      rw [if_pos f0, hr, e19']
      by_cases q : ρ s = r
      · rw [if_pos q, if_pos (by omega)]
      · rw [if_neg q, if_neg (by omega)]
    have hcd : cand (RBB w ru) n d k = List.range' k (n - k) := by unfold cand; rw [if_pos f0]
    have ht : f_Re_tries w (ru : Int) (d : Int) (M : Int) = f_Re_tries_22 u (d : Int) (M : Int) ((5 * ru + d : Nat) : Int) := by
      unfold f_Re_tries
      rw [bl_s, hun, bnd_s, i1, gd_t ⟨by omega, by omega⟩, Int.toNat_natCast, e17, if_pos f0]
    rw [hO, hcd, ht]
    exact h
  · have hcd : cand (RBB w ru) n d k = if k = 0 then [0] else [] := by unfold cand; rw [if_neg f0]
    have hO : oq (SA w) (AM n ρ c) (RBB w ru) ρ c d (vB u) = fun _ => pq (AM n ρ c) (RBB w ru) d (vB u) := by
      funext s
      unfold oq
      rw [if_neg f0]
    rw [hcd, hO]
    by_cases hk0 : k = 0
    · rw [if_pos hk0, scan1]
      obtain ⟨x, hx⟩ : ∃ x, x = up u 25 d 1 := ⟨_, rfl⟩
      have fx : ∀ c0, c0 ≠ 25 → x c0 = u c0 := fun c0 h => by rw [hx]; funext k; simp [up, h]
      have fxk : ∀ k, k ≠ d → x 25 k = u 25 k := fun k h => by rw [hx]; simp [up, h]
      have fxd : x 25 d = 1 := by rw [hx]; simp [up]
      have hVx : VB x := fun v hv => by rw [fx 24 (by decide)] at hv; rw [fx 23 (by decide)]; exact hVu v hv
      have hvx : vB x = vB u := by unfold vB; rw [fx 24 (by decide), fx 23 (by decide)]
      have hBx : BMod x M n ρ c := BMod_congr (fun k hk => fx k (by omega)) hBu
      have x19 : ∀ j, x 19 (3 * (5 * ru + d) + j) = (RBB w ru).tm d j := fun j => by rw [fx 19 (by decide)]; exact e19 j
      have t0 := htm 0 (by omega); have t1 := htm 1 (by omega); have t2 := htm 2 (by omega)
      have j0 : wr (3 * ((5 * ru + d : Nat) : Int)) = ((3 * (5 * ru + d) + 0 : Nat) : Int) := by
        rw [wr_of (x := 3 * ((5 * ru + d : Nat) : Int)) ⟨by omega, by omega⟩]; omega
      have j1 : wr (((3 * (5 * ru + d) + 0 : Nat) : Int) + 1) = ((3 * (5 * ru + d) + 1 : Nat) : Int) := by
        rw [wr_of (x := ((3 * (5 * ru + d) + 0 : Nat) : Int) + 1) ⟨by omega, by omega⟩]; omega
      have j2 : wr (((3 * (5 * ru + d) + 0 : Nat) : Int) + 2) = ((3 * (5 * ru + d) + 2 : Nat) : Int) := by
        rw [wr_of (x := ((3 * (5 * ru + d) + 0 : Nat) : Int) + 2) ⟨by omega, by omega⟩]; omega
      have hEq : EqC d u x := ⟨fun c0 _ h => fx c0 h, fxk, fun v _ => by rw [fx 23 (by decide)]⟩
      have hBn : BnC d (d : Int) u x 0 := ⟨fun c0 _ _ h => fx c0 h, fxk, by omega, fun v hv => by simp at hv, fun v _ => by rw [fx 24 (by decide)], fun v _ => by rw [fx 23 (by decide)]⟩
      have nv : ∀ cc, cc < 3 → ((RBB w ru).fm d = 3 → cc ≠ 0) → 0 ≤ vl (vB u) ((RBB w ru).tm d cc) := fun cc h1 h2 => need_v hQ hd hcov f0 h1 h2
      have start : f_Re_tries w (ru : Int) (d : Int) (M : Int) = (if (RBB w ru).fm d = 1 then (bnd (f_Re_has x ((5 * ru + d : Nat) : Int) (M : Int)) fun v53 => if v53 = 0 then (some (x, 1)) else (some (x, 0))) else (if (RBB w ru).fm d = 2 then (bnd (f_Re_valueOf x ((RBB w ru).tm d 0)) fun v43 => bnd (f_Re_valueOf x ((RBB w ru).tm d 1)) fun v46 => bnd (f_Re_compares ((RBB w ru).sj d) v43 v46) fun v49 => gd (v49 = 0 ∨ v49 = 1) (some (x, v49))) else (bnd (f_Re_valueOf x ((RBB w ru).tm d 1)) fun v30 => bnd (f_Re_valueOf x ((RBB w ru).tm d 2)) fun v35 => bl (wr (v30 + v35)) fun n37 => if n37 ≤ 127 then (f_Re_tries_215 x (d : Int) ((RBB w ru).tm d 0) n37) else (f_Re_tries_215 x (d : Int) ((RBB w ru).tm d 0) 127)))) := by
        have x17 : x 17 (5 * ru + d) = (RBB w ru).fm d := by rw [fx 17 (by decide)]; exact e17
        have x18 : x 18 (5 * ru + d) = (RBB w ru).sj d := by rw [fx 18 (by decide)]; exact e18
        have y0 := x19 0; have y1 := x19 1; have y2 := x19 2
        unfold f_Re_tries
        rw [bl_s, hun, bnd_s, i1, gd_t ⟨by omega, by omega⟩, Int.toNat_natCast, e17, if_neg f0, gd_t ⟨by omega, by omega⟩, Int.toNat_natCast, e25, if_pos (by omega), gd_t ⟨by omega, by omega⟩, bl_s, ← hx, j0, gd_t ⟨by omega, by omega⟩, bl_s, j1, gd_t ⟨by omega, by omega⟩, bl_s, j2, gd_t ⟨by omega, by omega⟩, Int.toNat_natCast, Int.toNat_natCast, Int.toNat_natCast, x17, x18, y0, y1, y2]
        by_cases f1 : (RBB w ru).fm d = 1
        · rw [if_pos f1, if_pos f1]
        · rw [if_neg f1, if_neg f1, gd_t ⟨by omega, by omega⟩]
          by_cases f2 : (RBB w ru).fm d = 2
          · rw [if_pos f2, if_pos f2, gd_t ⟨by omega, by omega⟩]
          · rw [if_neg f2, if_neg f2]
            have hg : (0 ≤ ((3 * (5 * ru + d) + 2 : Nat) : Int) ∧ ((3 * (5 * ru + d) + 2 : Nat) : Int) < 285) := ⟨by omega, by omega⟩
            refine congrArg (bnd _) (funext fun v30 => ?_)
            rw [gd_t hg]
      rw [start]
      unfold pq
      by_cases f1 : (RBB w ru).fm d = 1
      · rw [if_pos f1, if_pos f1]
        obtain ⟨r, hr, hr10, hr1, hr3, hz⟩ := hsj (by omega)
        have hco : w 3 r = (((SA w).co (r : Int) : Nat) : Int) := by
          rw [SA_co hr10]
          have := (hT r hr10).1
          omega
        have hvl : ∀ j, j < 3 → 0 ≤ vl (vB u) (x 19 (3 * (5 * ru + d) + j)) ∧ vl (vB u) (x 19 (3 * (5 * ru + d) + j)) < 128 := fun j hj => by
          rw [x19 j]
          exact ⟨nv j hj (fun e => by omega), (vl_rng hVV (htm j hj)).2⟩
        have hg := gB_AM (w := x) (at' := 5 * ru + d) (n := n) (r := r) (co := (SA w).co (r : Int)) (ρ := ρ) (c := c) hvx hr3 (fun s hs hρ => ⟨(hSl s hs).1, fun j h1 h2 => (hSl s hs).2 j (by rw [hρ]; exact h1) h2⟩) (fun j h1 h2 => by rw [x19 j]; exact hz j h1 h2) hvl
        have e19' : (fun j => x 19 (3 * (5 * ru + d) + j)) = (RBB w ru).tm d := funext x19
        rw [e19'] at hg
        have hh := has_n (w := x) (at' := 5 * ru + d) (r := r) (co := (SA w).co (r : Int)) hBx (by omega) (by rw [fx 18 (by decide), e18]; exact hr) hr10 (by rw [fx 3 (by decide), fu 3 (by decide)]; exact hco) hr3 (fun j hj => by rw [x19 j]; exact htm j hj) (fun j hj => by have := (hvl j (by omega)).1; rw [hvx]; omega)
        rw [hr]
        rcases hh with ⟨h1, h2⟩ | ⟨h1, h2⟩
        · rw [h2, bnd_s, if_pos (hg.mp h1), if_neg (show ¬ ((1 : Int) = 0) by decide)]
          exact ⟨x, rfl, hEq, hVx⟩
        · rw [h2, bnd_s, if_pos rfl, if_neg (fun z => by obtain ⟨s, hs, hs2⟩ := hg.mpr z; exact h1 s hs hs2)]
          exact ⟨x, rfl, by rw [fxd]; rfl, hBn, hVx, hvx⟩
      · rw [if_neg f1, if_neg f1]
        by_cases f2 : (RBB w ru).fm d = 2
        · rw [if_pos f2, if_pos f2]
          have n0 := nv 0 (by omega) (fun e => by omega)
          have n1 := nv 1 (by omega) (fun e => by omega)
          rw [valueOf_b t0 (by rw [hvx]; omega), bnd_s, valueOf_b t1 (by rw [hvx]; omega), bnd_s, hvx]
          obtain ⟨v, hv, hv2⟩ := comparesB_n (how := (RBB w ru).sj d) (a := vl (vB u) ((RBB w ru).tm d 0)) (b := vl (vB u) ((RBB w ru).tm d 1))
          rw [hv, bnd_s]
          rcases hv2 with ⟨rfl, hc⟩ | ⟨rfl, hc⟩
          · rw [gd_t (Or.inr rfl), if_pos hc]
            exact ⟨x, rfl, by rw [fxd]; rfl, hBn, hVx, hvx⟩
          · rw [gd_t (Or.inl rfl), if_neg hc]
            exact ⟨x, rfl, hEq, hVx⟩
        · rw [if_neg f2, if_neg f2]
          have f3 : (RBB w ru).fm d = 3 := by omega
          have n1 := nv 1 (by omega) (fun _ => by omega)
          have n2 := nv 2 (by omega) (fun _ => by omega)
          have r1 := vl_rng hVV t1
          have r2 := vl_rng hVV t2
          rw [valueOf_b t1 (by rw [hvx]; omega), bnd_s, valueOf_b t2 (by rw [hvx]; omega), bnd_s, hvx, bl_s, wr_of (x := vl (vB u) ((RBB w ru).tm d 1) + vl (vB u) ((RBB w ru).tm d 2)) ⟨by omega, by omega⟩]
          obtain ⟨y, hy⟩ : ∃ y : Int, y = min 127 (vl (vB u) ((RBB w ru).tm d 1) + vl (vB u) ((RBB w ru).tm d 2)) := ⟨_, rfl⟩
          rw [← hy]
          have hm := match_n (w := x) (own := (d : Int)) (t := (RBB w ru).tm d 0) (x := y) hVx t0
          rw [hvx] at hm
          have e215 : (if vl (vB u) ((RBB w ru).tm d 1) + vl (vB u) ((RBB w ru).tm d 2) ≤ 127 then f_Re_tries_215 x (d : Int) ((RBB w ru).tm d 0) (vl (vB u) ((RBB w ru).tm d 1) + vl (vB u) ((RBB w ru).tm d 2)) else f_Re_tries_215 x (d : Int) ((RBB w ru).tm d 0) 127) = bnd (f_Re_match x (d : Int) ((RBB w ru).tm d 0) y) fun v2 => gd (v2.2 = 0 ∨ v2.2 = 1) (some (v2.1, v2.2)) := by
            by_cases q : vl (vB u) ((RBB w ru).tm d 1) + vl (vB u) ((RBB w ru).tm d 2) ≤ 127
            · rw [if_pos q, show vl (vB u) ((RBB w ru).tm d 1) + vl (vB u) ((RBB w ru).tm d 2) = y by omega]
              rfl
            · rw [if_neg q, show (127 : Int) = y by omega]
              rfl
          rw [e215, hm]
          by_cases h1 : vl (vB u) ((RBB w ru).tm d 0) = -1
          · rw [if_pos h1, if_pos h1, bnd_s, gd_t (Or.inr rfl)]
            obtain ⟨hneg, hv⟩ := vl_neg h1
            have hb := BnB.bind (own := (d : Int)) (x := y) (BnB.refl (w := x)) ⟨t0.1, hneg⟩ (by rw [hvx]; exact h1) hVx hn9
            rw [Nat.zero_or] at hb
            obtain ⟨b1, b2, b3, b4, b5⟩ := hb
            have hvb := bw_vB (w := x) (x := y) (own := (d : Int)) hneg (by rw [hvx]; exact h1) hn9
            rw [hvx] at hvb
            refine ⟨bw x ((RBB w ru).tm d 0) y (d : Int), rfl, ?_, ⟨fun c0 h1 h2 h3 => (b1 c0 h1 h2).trans (fx c0 h3), fun k hk => by rw [b1 25 (by decide) (by decide)]; exact fxk k hk, b2, fun v hv => by have := b3 v hv; rw [fx 24 (by decide)] at this; exact this, fun v hv => by have := b4 v hv; rw [fx 24 (by decide)] at this; exact this, fun v hv => by have := b5 v (by rw [fx 24 (by decide)]; exact hv); rw [fx 23 (by decide)] at this; exact this⟩, bw_VB hVx (by omega), hvb⟩
            rw [b1 25 (by decide) (by decide), fxd]
            rfl
          · rw [if_neg h1, if_neg h1]
            by_cases h2 : vl (vB u) ((RBB w ru).tm d 0) = y
            · rw [if_pos h2, if_pos h2, bnd_s, gd_t (Or.inr rfl)]
              exact ⟨x, rfl, by rw [fxd]; rfl, hBn, hVx, hvx⟩
            · rw [if_neg h2, if_neg h2, bnd_s, gd_t (Or.inl rfl)]
              exact ⟨x, rfl, hEq, hVx⟩
    · rw [if_neg hk0]
      show ∃ w2, f_Re_tries w (ru : Int) (d : Int) (M : Int) = some (w2, 0) ∧ EqC d u w2 ∧ VB w2
      refine ⟨u, ?_, ⟨fun _ _ _ => rfl, fun _ _ => rfl, fun _ _ => rfl⟩, hVu⟩
      unfold f_Re_tries
      rw [bl_s, hun, bnd_s, i1, gd_t ⟨by omega, by omega⟩, Int.toNat_natCast, e17, if_neg f0, gd_t ⟨by omega, by omega⟩, Int.toNat_natCast, e25, if_neg (by omega)]
