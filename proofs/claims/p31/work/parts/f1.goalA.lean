/-! THE CLASS: goals as numbers; the table -/
theorem iushr22 (y : Int) : ∃ h : Nat, h < 1024 ∧ iushr y 22 = (h : Int) := by
  obtain ⟨u, hu⟩ : ∃ u, u = (ii y).toUInt32 := ⟨_, rfl⟩
  have hlt : u.toNat < 4294967296 := u.toNat_lt
  refine ⟨u.toNat / 4194304, by omega, ?_⟩
  unfold iushr
  rw [← hu]
  show (u >>> ((ii 22).toUInt32 &&& Int32.toUInt32 31)).toBitVec.toInt = _
  refine bvI ?_ (by omega)
  show (u >>> ((ii 22).toUInt32 &&& Int32.toUInt32 31)).toNat = _
  have hs : ((ii 22).toUInt32 &&& Int32.toUInt32 31).toNat % 32 = 22 := by decide +kernel
  rw [UInt32.toNat_shiftRight, hs, Nat.shiftRight_eq_div_pow]
noncomputable def hsh (x : Nat) : Nat := (iushr (wr ((x : Int) * (-1640531535))) 22).toNat
theorem hsh_n (x : Nat) : hsh x < 1024 ∧ iushr (wr ((x : Int) * (-1640531535))) 22 = ((hsh x : Nat) : Int) := by
  obtain ⟨h, h1, h2⟩ := iushr22 (wr ((x : Int) * (-1640531535)))
  unfold hsh
  rw [h2, Int.toNat_natCast]
  exact ⟨h1, rfl⟩
theorem gset_up {c : Nat} (hc : c < 3) {f : Nat → Int} : gset (c + 1) f = if 0 ≤ f c then gset c f ||| 2 ^ c else gset c f := by
  have hb : ∀ j, j ≠ c → gbit (c + 1) f j = gbit c f j := fun j hj => by
    unfold gbit
    by_cases q : j < c ∧ 0 ≤ f j
    · rw [if_pos q, if_pos ⟨by omega, q.2⟩]
    · rw [if_neg q, if_neg (fun z => q ⟨by omega, z.2⟩)]
  have hz : ∀ j, c ≤ j → gbit c f j = 0 := fun j hj => if_neg (fun z => by omega)
  have h1 : gbit (c + 1) f c = if 0 ≤ f c then 1 else 0 := by
    unfold gbit
    by_cases q : 0 ≤ f c
    · rw [if_pos q, if_pos ⟨by omega, q⟩]
    · rw [if_neg q, if_neg (fun z => q z.2)]
  have hor : ∀ s, s < 2 ^ c → s ||| 2 ^ c = s + 2 ^ c := fun s hs => by
    have := Nat.two_pow_add_eq_or_of_lt (i := c) (b := s) hs 1
    rw [Nat.mul_one] at this
    rw [Nat.or_comm, ← this, Nat.add_comm]
  have g0 := gbit_2 (k := c) (f := f) (j := 0)
  have g1 := gbit_2 (k := c) (f := f) (j := 1)
  have hc3 : c = 0 ∨ c = 1 ∨ c = 2 := by omega
  unfold gset
  rcases hc3 with rfl | rfl | rfl
  · rw [hb 1 (by omega), hb 2 (by omega), hz 0 (by omega), hz 1 (by omega), hz 2 (by omega), h1]
    split <;> rfl
  · rw [hb 0 (by omega), hb 2 (by omega), hz 1 (by omega), hz 2 (by omega), h1]
    split
    · rw [hor _ (by omega)]
    · omega
  · rw [hb 0 (by omega), hb 1 (by omega), hz 2 (by omega), h1]
    split
    · rw [hor _ (by omega)]
    · omega
theorem gcode_up {c : Nat} (hc : c < 3) {f : Nat → Int} (h : ∀ j, j < c + 1 → f j < 128) : gcode (c + 1) f = if 0 ≤ f c then gcode c f ||| (f c).toNat * 2 ^ (7 * (2 - c)) else gcode c f := by
  have hb : ∀ j, j ≠ c → gval (c + 1) f j = gval c f j := fun j hj => by
    unfold gval
    by_cases q : j < c ∧ 0 ≤ f j
    · rw [if_pos q, if_pos ⟨by omega, q.2⟩]
    · rw [if_neg q, if_neg (fun z => q ⟨by omega, z.2⟩)]
  have hz : ∀ j, c ≤ j → gval c f j = 0 := fun j hj => if_neg (fun z => by omega)
  have h1 : gval (c + 1) f c = if 0 ≤ f c then (f c).toNat else 0 := by
    unfold gval
    by_cases q : 0 ≤ f c
    · rw [if_pos q, if_pos ⟨by omega, q⟩]
    · rw [if_neg q, if_neg (fun z => q z.2)]
  have hfc := h c (by omega)
  have v0 : gval c f 0 < 128 := gval_lt (fun j hj => h j (by omega))
  have v1 : gval c f 1 < 128 := gval_lt (fun j hj => h j (by omega))
  have hc3 : c = 0 ∨ c = 1 ∨ c = 2 := by omega
  unfold gcode
  rcases hc3 with rfl | rfl | rfl
  · rw [hb 1 (by omega), hb 2 (by omega), hz 0 (by omega), hz 1 (by omega), hz 2 (by omega), h1]
    split
    · have := pk_or (a := (f 0).toNat) (b := 0) (c := 0) (by omega) (by omega) (by omega)
      rw [← this]
      show _ = 0 ||| (f 0).toNat * 2 ^ 14
      simp
    · rfl
  · rw [hb 0 (by omega), hb 2 (by omega), hz 1 (by omega), hz 2 (by omega), h1]
    split
    · rw [← pk_or v0 (show (f 1).toNat < 128 by omega) (by omega), ← pk_or v0 (by omega) (by omega)]
      show _ = gval 1 f 0 * 2 ^ 14 ||| 0 * 2 ^ 7 ||| 0 ||| (f 1).toNat * 2 ^ 7
      simp
    · rfl
  · rw [hb 0 (by omega), hb 1 (by omega), hz 2 (by omega), h1]
    split
    · rw [← pk_or v0 v1 (show (f 2).toNat < 128 by omega), ← pk_or v0 v1 (by omega)]
      show _ = gval 2 f 0 * 2 ^ 14 ||| gval 2 f 1 * 2 ^ 7 ||| 0 ||| (f 2).toNat * 2 ^ 0
      simp
    · rfl
theorem tellingColumns_n {w : World} {r : Nat} (hS : WfS w) (hr : r < 10) (hd : 1 ≤ w 3 r) : f_Sc_tellingColumns w (r : Int) = some ((mny w r : Nat) : Int) := by
  obtain ⟨s3, s4, s5, s6, s7⟩ := hS r hr
  obtain ⟨s61, s62, s63⟩ := s6 hd
  unfold f_Sc_tellingColumns mny
  rw [kindOf_n hr, bnd_s]
  by_cases q : w 4 r = 0
  · rw [if_pos q, columnsOf_n hr, bnd_s, if_pos q]
    congr 1
    omega
  · rw [if_neg q, keyOf_n hr, bnd_s, if_neg q]
    have := s63 q
    congr 1
    omega
theorem goalOf_n {w : World} {r : Nat} {x y z : Int} (hS : WfS w) (hr : r < 10) (hd : 1 ≤ w 3 r) (h : ∀ j, j < mny w r → pick x y z j < 128) : f_Sc_goalOf w (r : Int) x y z = some ((genc r (mny w r) (pick x y z) : Nat) : Int) := by
  have hm3 : mny w r ≤ 3 := by have := (hS r hr).1; unfold mny; split <;> omega
  have htc := tellingColumns_n hS hr hd
  have hs0 : gset 0 (pick x y z) = 0 := by
    unfold gset gbit
    rw [if_neg (fun z => by omega), if_neg (fun z => by omega), if_neg (fun z => by omega)]
  have hg0 : gcode 0 (pick x y z) = 0 := by
    unfold gcode gval
    rw [if_neg (fun z => by omega), if_neg (fun z => by omega), if_neg (fun z => by omega)]
    rfl
  unfold f_Sc_goalOf f_Sc_goalOf_9
  have hgo := lp_go (F := fun s : (Int × Int × Int) => f_Sc_goalOf_9B w (r : Int) x y z s.1 s.2.1 s.2.2) (fun c => (((gset c (pick x y z) : Nat) : Int), ((gcode c (pick x y z) : Nat) : Int), (c : Int))) ((genc r (mny w r) (pick x y z) : Nat) : Int) (mny w r) (fun c hc => ?_) ?_
  · have hgo : lp (fun s : (Int × Int × Int) => f_Sc_goalOf_9B w (r : Int) x y z s.1 s.2.1 s.2.2) (((gset 0 (pick x y z) : Nat) : Int), ((gcode 0 (pick x y z) : Nat) : Int), ((0 : Nat) : Int)) = _ := hgo
    rw [hs0, hg0] at hgo
    exact hgo
  · show f_Sc_goalOf_9B w (r : Int) x y z ((gset c (pick x y z) : Nat) : Int) ((gcode c (pick x y z) : Nat) : Int) (c : Int) = some (Sum.inl (((gset (c + 1) (pick x y z) : Nat) : Int), ((gcode (c + 1) (pick x y z) : Nat) : Int), ((c + 1 : Nat) : Int)))
    have hc3 : c < 3 := by omega
    have e57 : ∀ a b : Int, f_Sc_goalOf_57 w (r : Int) x y z a b (c : Int) = some (Sum.inl (a, b, ((c + 1 : Nat) : Int))) := fun a b => by
      unfold f_Sc_goalOf_57
      rw [bl_s, wr_of (x := (c : Int) + 1) ⟨by omega, by omega⟩]
      rfl
    have hs := gset_8 (k := c) (f := pick x y z)
    have hg := gcode_lt (k := c) (f := pick x y z) (fun j hj => h j (by omega))
    have hpc := h c hc
    have hsh : f_Dm_shiftOf (c : Int) = some ((7 * (2 - c) : Nat) : Int) := by
      unfold f_Dm_shiftOf
      rw [wr_of (x := 2 - (c : Int)) ⟨by omega, by omega⟩, wr_of (x := (2 - (c : Int)) * 7) ⟨by omega, by omega⟩]
      rw [show (2 - (c : Int)) * 7 = ((7 * (2 - c) : Nat) : Int) by omega]
    rw [gset_up hc3, gcode_up hc3 (fun j hj => h j (by omega))]
    unfold f_Sc_goalOf_9B
    rw [htc, bnd_s, if_neg (by omega), picked_n hc3, bnd_s]
    by_cases q : 0 ≤ pick x y z c
    · obtain ⟨v, hv⟩ : ∃ v : Nat, pick x y z c = (v : Int) := ⟨(pick x y z c).toNat, by omega⟩
      have hv128 : v < 128 := by omega
      have h2c : 2 ^ c < 8 := Nat.lt_of_le_of_lt (Nat.pow_le_pow_right (by omega) (show c ≤ 2 by omega)) (by decide)
      have h2p : 2 ^ (7 * (2 - c)) ≤ 16384 := Nat.pow_le_pow_right (n := 2) (by omega) (show 7 * (2 - c) ≤ 14 by omega)
      have hmul : v * 2 ^ (7 * (2 - c)) ≤ 127 * 16384 := Nat.mul_le_mul (by omega) h2p
      have hbk : ishl 1 (c : Int) = ((2 ^ c : Nat) : Int) := bit_k (by omega)
      rw [if_neg (by omega), hbk, ior_n (by omega) (by omega), bl_s, hsh, bnd_s, hv, ishl_n (a := v) (k := 7 * (2 - c)) (by omega) (by omega), ior_n (by omega) (by omega), bl_s, e57, if_pos (by omega), if_pos (by omega), Int.toNat_natCast]
    · rw [if_pos (by omega), e57, if_neg q, if_neg q]
  · show f_Sc_goalOf_9B w (r : Int) x y z ((gset (mny w r) (pick x y z) : Nat) : Int) ((gcode (mny w r) (pick x y z) : Nat) : Int) ((mny w r : Nat) : Int) = _
    have hs := gset_8 (k := mny w r) (f := pick x y z)
    have hg := gcode_lt (k := mny w r) (f := pick x y z) h
    have o1 : r * 2 ^ 3 ||| gset (mny w r) (pick x y z) = r * 8 + gset (mny w r) (pick x y z) := by
      have := Nat.two_pow_add_eq_or_of_lt (i := 3) (b := gset (mny w r) (pick x y z)) hs r
      rw [Nat.mul_comm r, ← this]
    have o2 : (r * 8 + gset (mny w r) (pick x y z)) * 2 ^ 21 ||| gcode (mny w r) (pick x y z) = genc r (mny w r) (pick x y z) := by
      have := Nat.two_pow_add_eq_or_of_lt (i := 21) (b := gcode (mny w r) (pick x y z)) hg (r * 8 + gset (mny w r) (pick x y z))
      rw [Nat.mul_comm (r * 8 + gset (mny w r) (pick x y z)), ← this]
      unfold genc
      omega
    have s1 : ishl (r : Int) 3 = ((r * 2 ^ 3 : Nat) : Int) := ishl_n (a := r) (k := 3) (by omega) (by omega)
    have s2 : ishl ((r * 8 + gset (mny w r) (pick x y z) : Nat) : Int) 21 = (((r * 8 + gset (mny w r) (pick x y z)) * 2 ^ 21 : Nat) : Int) := ishl_n (k := 21) (by omega) (by omega)
    unfold f_Sc_goalOf_9B
    rw [htc, bnd_s, if_pos (Int.le_refl _), s1, ior_n (by omega) (by omega), o1, s2, ior_n (by omega) (by omega), o2]
/-- the goals that are asked for, and their table -/
def GoA (w : World) (n : Nat) (g : Nat → Nat) : Prop := w 152 0 = (n : Int) ∧ (∀ i, i < n → w 153 i = (g i : Int)) ∧ (∀ x, x < 1024 → 0 ≤ w 154 x ∧ w 154 x ≤ (n : Int)) ∧ (∀ x y, x < 1024 → y < 1024 → w 154 x = w 154 y → w 154 x ≠ 0 → y = x) ∧ ∀ i, i < n → ∃ d, d < 1024 ∧ w 154 ((hsh (g i) + d) % 1024) = (i : Int) + 1 ∧ ∀ d', d' < d → w 154 ((hsh (g i) + d') % 1024) ≠ 0
def FrG (w w' : World) : Prop := ∀ c, c ≠ 152 → c ≠ 153 → c ≠ 154 → w' c = w c
theorem FrG.refl {w : World} : FrG w w := fun _ _ _ _ => rfl
theorem askA_n {w : World} {n x : Nat} {g : Nat → Nat} (hG : GoA w n g) (hn : n < 400) (hx : x < 2147483648) : (Inn n g x ∧ f_Go_ask w (x : Int) = some w) ∨ (¬ Inn n g x ∧ ∃ w', f_Go_ask w (x : Int) = some w' ∧ FrG w w' ∧ GoA w' (n + 1) (upn g n x)) := by
  obtain ⟨g1, g2, g3, g4, g5⟩ := id hG
  obtain ⟨hh, hheq⟩ := hsh_n x
  have hex : ∃ d, d < 1024 ∧ (w 154 ((hsh x + d) % 1024) = 0 ∨ ∃ i, i < n ∧ w 154 ((hsh x + d) % 1024) = (i : Int) + 1 ∧ g i = x) := by
    by_cases hin : Inn n g x
    · obtain ⟨i, hi, e⟩ := hin
      obtain ⟨d, hd, h1, -⟩ := g5 i hi
      rw [e] at h1
      exact ⟨d, hd, Or.inr ⟨i, hi, h1, e⟩⟩
    · refine Classical.byContradiction fun hno => ?_
      have hall : ∀ y, y < 1024 → w 154 y ≠ 0 := fun y hy hz => by
        refine hno ⟨(y + 1024 - hsh x) % 1024, Nat.mod_lt _ (by omega), Or.inl ?_⟩
        have : (hsh x + (y + 1024 - hsh x) % 1024) % 1024 = y := by omega
        rw [this]
        exact hz
      have hnd : ((List.range 1024).map (fun y => (w 154 y).toNat)).Nodup := by
        rw [List.Nodup, List.pairwise_map]
        refine List.nodup_range.imp_of_mem (fun {a b} ha hb hne e => hne ?_)
        have ha := List.mem_range.mp ha
        have hb := List.mem_range.mp hb
        have h1 := (g3 a ha).1
        have h2 := (g3 b hb).1
        exact (g4 a b ha hb (by omega) (hall a ha)).symm
      have := nodup_len 401 _ hnd (fun z hz => by
        obtain ⟨y, hy, e⟩ := List.mem_map.mp hz
        have h2 := (g3 y (List.mem_range.mp hy)).2
        omega)
      rw [List.length_map, List.length_range] at this
      omega
  obtain ⟨d0, ⟨hd0, hstop⟩, hmin⟩ := min_ex (P := fun d => d < 1024 ∧ (w 154 ((hsh x + d) % 1024) = 0 ∨ ∃ i, i < n ∧ w 154 ((hsh x + d) % 1024) = (i : Int) + 1 ∧ g i = x)) (f := fun d => d) hex
  have hgo : ∀ d, d < d0 → w 154 ((hsh x + d) % 1024) ≠ 0 ∧ ∀ i, i < n → w 154 ((hsh x + d) % 1024) = (i : Int) + 1 → g i ≠ x := fun d hd => by
    refine ⟨fun z => ?_, fun i hi e1 e2 => ?_⟩
    · have := hmin d ⟨by omega, Or.inl z⟩
      have : d0 ≤ d := this
      omega
    · have := hmin d ⟨by omega, Or.inr ⟨i, hi, e1, e2⟩⟩
      have : d0 ≤ d := this
      omega
  have hidx : ∀ d : Nat, d < 1024 → iand (wr (((hsh x : Nat) : Int) + (d : Int))) (wr (1024 - 1)) = (((hsh x + d) % 1024 : Nat) : Int) := fun d hd => by
    have e1 : wr (1024 - 1) = ((1023 : Nat) : Int) := by decide +kernel
    have e2 : (hsh x + d) &&& 1023 = (hsh x + d) % 1024 := Nat.and_two_pow_sub_one_eq_mod (hsh x + d) 10
    rw [wr_of (x := ((hsh x : Nat) : Int) + (d : Int)) ⟨by omega, by omega⟩, e1, show ((hsh x : Nat) : Int) + (d : Int) = ((hsh x + d : Nat) : Int) by omega, iand_n (by omega) (by omega), e2]
  have e134 : ∀ d : Nat, d < 1024 → f_Go_ask_134 w (x : Int) ((hsh x : Nat) : Int) (d : Int) = some (Sum.inl ((d + 1 : Nat) : Int)) := fun d hd => by
    unfold f_Go_ask_134
    rw [bl_s, wr_of (x := (d : Int) + 1) ⟨by omega, by omega⟩]
    rfl
  have hat : ∀ d, d < 1024 → ∀ i, i < n → w 154 ((hsh x + d) % 1024) = (i : Int) + 1 → f_Go_ask_10B w (x : Int) ((hsh x : Nat) : Int) (d : Int) = if g i = x then some (Sum.inr w) else some (Sum.inl ((d + 1 : Nat) : Int)) := fun d hd i hi hT => by
    have hq : (hsh x + d) % 1024 < 1024 := Nat.mod_lt _ (by omega)
    have hga : f_Go_goalAt w (wr (w 154 ((hsh x + d) % 1024) - 1)) = some (g i : Int) := by
      rw [hT, wr_of (x := (i : Int) + 1 - 1) ⟨by omega, by omega⟩, show (i : Int) + 1 - 1 = (i : Int) by omega]
      unfold f_Go_goalAt
      rw [if_neg (by omega), if_neg (by omega), gd_t ⟨by omega, by omega⟩, Int.toNat_natCast, g2 i hi]
    have h101 : f_Go_ask_101 w (x : Int) ((hsh x : Nat) : Int) (d : Int) (((hsh x + d) % 1024 : Nat) : Int) = if g i = x then some (Sum.inr w) else some (Sum.inl ((d + 1 : Nat) : Int)) := by
      unfold f_Go_ask_101
      rw [if_neg (by omega), if_neg (by omega), gd_t ⟨by omega, by omega⟩, Int.toNat_natCast, hga, bnd_s, e134 d hd]
      by_cases e : g i = x
      · rw [if_pos e, if_pos (by omega)]
      · rw [if_neg e, if_neg (by omega)]
    unfold f_Go_ask_10B
    rw [if_neg (by omega), g1, if_neg (by omega), hidx d hd, bl_s, if_neg (by omega), if_neg (by omega), gd_t ⟨by omega, by omega⟩, Int.toNat_natCast, if_neg (by omega), h101]
  have hwalk : ∀ d, d ≤ d0 → f_Go_ask_10 w (x : Int) ((hsh x : Nat) : Int) 0 = f_Go_ask_10 w (x : Int) ((hsh x : Nat) : Int) (d : Int) := fun d => by
    induction d with
    | zero => intro _; rfl
    | succ d ih =>
      intro hd
      rw [ih (by omega)]
      obtain ⟨z1, z2⟩ := hgo d (by omega)
      have hq : (hsh x + d) % 1024 < 1024 := Nat.mod_lt _ (by omega)
      obtain ⟨t1, t2⟩ := g3 _ hq
      obtain ⟨i, hi⟩ : ∃ i : Nat, w 154 ((hsh x + d) % 1024) = (i : Int) + 1 := ⟨(w 154 ((hsh x + d) % 1024)).toNat - 1, by omega⟩
      have hin : i < n := by omega
      have hb := hat d (by omega) i hin hi
      rw [if_neg (z2 i hin hi)] at hb
      unfold f_Go_ask_10
      exact lp_step (F := fun z : Int => f_Go_ask_10B w (x : Int) ((hsh x : Nat) : Int) z) (s := (d : Int)) hb
  have hask : f_Go_ask w (x : Int) = f_Go_ask_10 w (x : Int) ((hsh x : Nat) : Int) (d0 : Int) := by
    rw [← hwalk d0 (Nat.le_refl _)]
    unfold f_Go_ask
    rw [hheq, bl_s]
  rw [hask]
  by_cases hin : Inn n g x
  · refine Or.inl ⟨hin, ?_⟩
    have hmatch : ∃ i, i < n ∧ w 154 ((hsh x + d0) % 1024) = (i : Int) + 1 ∧ g i = x := by
      rcases hstop with z | z
      · obtain ⟨i, hi, e⟩ := hin
        obtain ⟨d, hd, h1, h2⟩ := g5 i hi
        rw [e] at h1 h2
        have hle : d0 ≤ d := hmin d ⟨hd, Or.inr ⟨i, hi, h1, e⟩⟩
        by_cases e2 : d0 = d
        · rw [e2]; exact ⟨i, hi, h1, e⟩
        · exact absurd z (h2 d0 (by omega))
      · exact z
    obtain ⟨i, hi, h1, h2⟩ := hmatch
    have hb := hat d0 hd0 i hi h1
    rw [if_pos h2] at hb
    unfold f_Go_ask_10
    exact lp_out (F := fun z : Int => f_Go_ask_10B w (x : Int) ((hsh x : Nat) : Int) z) (s := (d0 : Int)) hb
  · refine Or.inr ⟨hin, ?_⟩
    have hz : w 154 ((hsh x + d0) % 1024) = 0 := by
      rcases hstop with z | ⟨i, hi, -, e⟩
      · exact z
      · exact absurd ⟨i, hi, e⟩ hin
    obtain ⟨q, hqd⟩ : ∃ q, q = (hsh x + d0) % 1024 := ⟨_, rfl⟩
    have hq : q < 1024 := by rw [hqd]; exact Nat.mod_lt _ (by omega)
    rw [← hqd] at hz
    obtain ⟨w', hw'⟩ : ∃ w', w' = up (up (up w 153 n (x : Int)) 152 0 ((n : Int) + 1)) 154 q ((n : Int) + 1) := ⟨_, rfl⟩
    have hout : f_Go_ask_10B w (x : Int) ((hsh x : Nat) : Int) (d0 : Int) = some (Sum.inr w') := by
      have e152 : up w 153 n (x : Int) 152 0 = (n : Int) := by
        have : up w 153 n (x : Int) 152 0 = w 152 0 := by simp [up]
        rw [this]; exact g1
      have e152b : up (up w 153 n (x : Int)) 152 0 ((n : Int) + 1) 152 0 = (n : Int) + 1 := by simp [up]
      unfold f_Go_ask_10B
      rw [if_neg (by omega), g1, if_neg (by omega), hidx d0 hd0, bl_s, ← hqd, if_neg (by omega), if_neg (by omega), gd_t ⟨by omega, by omega⟩, Int.toNat_natCast, if_pos hz, gd_t ⟨by omega, by omega⟩, bl_s, Int.toNat_natCast, e152, wr_of (x := (n : Int) + 1) ⟨by omega, by omega⟩, bl_s, gd_t ⟨by omega, by omega⟩, e152b, bl_s, ← hw']
    have f154 : ∀ y, w' 154 y = if y = q then (n : Int) + 1 else w 154 y := fun y => by rw [hw']; simp [up]
    have f153 : ∀ y, w' 153 y = if y = n then (x : Int) else w 153 y := fun y => by rw [hw']; simp [up]
    refine ⟨w', ?_, fun c a b d => ?_, by rw [hw']; simp [up], fun i hi => ?_, fun y hy => ?_, fun y z hy hz' e hne => ?_, fun i hi => ?_⟩
    · unfold f_Go_ask_10
      exact lp_out (F := fun z : Int => f_Go_ask_10B w (x : Int) ((hsh x : Nat) : Int) z) (s := (d0 : Int)) hout
    · rw [hw']
      funext k
      simp [up, a, b, d]
    · rw [f153]
      by_cases e : i = n
      · rw [if_pos e, e, upn_eq]
      · rw [if_neg e, upn_ne e]; exact g2 i (by omega)
    · rw [f154]
      have := g3 y hy
      split <;> omega
    · rw [f154 y, f154 z] at e
      rw [f154 y] at hne
      by_cases e1 : y = q
      · by_cases e2 : z = q
        · rw [e1, e2]
        · rw [if_pos e1, if_neg e2] at e
          have := (g3 z hz').2
          omega
      · by_cases e2 : z = q
        · rw [if_neg e1, if_pos e2] at e
          have := (g3 y hy).2
          omega
        · rw [if_neg e1, if_neg e2] at e
          rw [if_neg e1] at hne
          exact g4 y z hy hz' e hne
    · by_cases e : i = n
      · rw [e, upn_eq]
        refine ⟨d0, hd0, by rw [← hqd, f154, if_pos rfl], fun d' hd' => ?_⟩
        rw [f154]
        split
        · omega
        · exact (hgo d' hd').1
      · obtain ⟨d, hd, h1, h2⟩ := g5 i (by omega)
        rw [upn_ne e]
        refine ⟨d, hd, ?_, fun d' hd' => ?_⟩
        · rw [f154, if_neg]
          · exact h1
          · intro z
            rw [z, hz] at h1
            omega
        · rw [f154]
          split
          · omega
          · exact h2 d' hd'
