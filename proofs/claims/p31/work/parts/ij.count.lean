/-! THE LAW over one picture: count -/
def e0 (k : Nat) (r : Int) : Int := if k < 3 ∧ 0 ≤ r then 1 else 0
def e5 (k n : Nat) (r : Int) : Int := if k = 4 ∧ n % 5 = 0 ∧ 0 ≤ r then 1 else 0
def ea (k : Nat) (r : Int) : Int := if 7 ≤ k ∧ k ≤ 9 ∧ 0 < r then 1 else 0
def ep (k : Nat) (r : Int) : Int := if 7 ≤ k ∧ k ≤ 10 ∧ 0 < r then 1 else 0
def eh (k n : Nat) (r : Int) : Int := if 7 ≤ k ∧ k ≤ 9 ∧ 0 < r ∧ 0 < n / 3 % 5 then 1 else 0
def e1 (k : Nat) (r : Int) : Int := if 11 ≤ k ∧ k ≤ 13 ∧ 0 ≤ r then 1 else 0
def e2 (k n : Nat) (r : Int) : Int := if k = 14 ∧ n % 3 = 0 ∧ 0 ≤ r then 1 else 0
abbrev ecl (k n : Nat) (r : Int) : Prop := (11 ≤ k ∧ k ≤ 13 ∧ 0 ≤ r) ∨ (k = 14 ∧ n % 3 = 0 ∧ 0 ≤ r) ∨ (k = 14 ∧ n % 3 = 1)
section CNT
variable {z : ZQ} {k n : Nat} {r a : Int}
theorem g16 {s : Int} (h : 0 ≤ s) (h6 : s < 6) {β : Type} {o : Option β} : gd (0 ≤ s ∧ s < 6) o = o := gd_t ⟨h, h6⟩
theorem ctA {x : Nat} (hx : x < 2147483648) (hk : k = x % 16) (hn : n = x / 16) : f_L_count z (x : Int) r = f_L_count_29 z r (k : Int) (n : Int) 0 (z.2.2 0) (e0 k r) := by
  have i1 : irem (x : Int) 16 = (k : Int) := by rw [irem_n (by omega) (by omega) (by decide) (by decide)]; omega
  have i2 : idiv (x : Int) 16 = (n : Int) := by rw [idiv_n (by omega) (by omega) (by decide) (by decide)]; omega
  unfold f_L_count f_L_count_28 e0
  rw [bl_s, bl_s, i1, i2]
  by_cases q : k < 3
  · rw [if_neg (by omega)]
    by_cases q2 : r < 0
    · rw [if_pos q2, if_neg (by omega)]
    · rw [if_neg q2, if_pos ⟨q, by omega⟩]
  · rw [if_pos (by omega), if_neg (fun h => q h.1)]
theorem ctB (hn : n < 2147483648) (ha : 0 ≤ a ∧ a ≤ 1000) : f_L_count_29 z r (k : Int) (n : Int) 0 a (e0 k r) = f_L_count_56 (zn z 0 (a + e0 k r)) r (k : Int) (n : Int) 5 (z.2.2 5) (e5 k n r) := by
  have i1 : irem (n : Int) 5 = ((n % 5 : Nat) : Int) := by rw [irem_n (by omega) (by omega) (by decide) (by decide)]; omega
  have hw : wr (a + e0 k r) = a + e0 k r := by unfold e0; split <;> exact wr_s (by omega) (by omega)
  unfold f_L_count_29 f_L_count_55
  rw [g16 (by decide) (by decide), bl_s, hw, i1]
  show (if (k : Int) = 4 then (if ((n % 5 : Nat) : Int) = 0 then (if r < 0 then _ else _) else _) else _) = _
  unfold e5
  by_cases q : k = 4
  · rw [if_pos (by omega)]
    by_cases q2 : n % 5 = 0
    · rw [if_pos (by omega)]
      by_cases q3 : r < 0
      · rw [if_pos q3, if_neg (fun h => by omega)]; rfl
      · rw [if_neg q3, if_pos ⟨q, q2, by omega⟩]; rfl
    · rw [if_neg (by omega), if_neg (fun h => q2 h.2.1)]; rfl
  · rw [if_neg (by omega), if_neg (fun h => q h.1)]; rfl
theorem ctC (ha : 0 ≤ a ∧ a ≤ 1000) : f_L_count_56 z r (k : Int) (n : Int) 5 a (e5 k n r) = f_L_count_79 (zn z 5 (a + e5 k n r)) r (k : Int) (n : Int) (ea k r) := by
  have hw : wr (a + e5 k n r) = a + e5 k n r := by unfold e5; split <;> exact wr_s (by omega) (by omega)
  unfold f_L_count_56 f_L_count_78
  rw [g16 (by decide) (by decide), bl_s, hw]
  show (if (k : Int) ≤ 6 then _ else (if 10 ≤ (k : Int) then _ else (if r ≤ 0 then _ else _))) = _
  unfold ea
  by_cases q : k ≤ 6
  · rw [if_pos (by omega), if_neg (fun h => by omega)]; rfl
  · rw [if_neg (by omega)]
    by_cases q2 : 10 ≤ k
    · rw [if_pos (by omega), if_neg (fun h => by omega)]; rfl
    · rw [if_neg (by omega)]
      by_cases q3 : r ≤ 0
      · rw [if_pos q3, if_neg (fun h => by omega)]; rfl
      · rw [if_neg q3, if_pos ⟨by omega, by omega, by omega⟩]; rfl
theorem ctD : f_L_count_79 z r (k : Int) (n : Int) (ea k r) = f_L_count_105 z r (k : Int) (n : Int) (ea k r) 3 (z.2.2 3) (ep k r) := by
  unfold f_L_count_79 f_L_count_104 f_L_count_100 ea ep
  by_cases q : 7 ≤ k ∧ k ≤ 9 ∧ 0 < r
  · rw [if_pos q, if_neg z10, if_pos ⟨q.1, by omega, q.2.2⟩]
  · rw [if_neg q, if_pos rfl]
    by_cases q2 : k = 10
    · rw [if_pos (by omega)]
      by_cases q3 : r ≤ 0
      · rw [if_pos q3, if_neg (fun h => by omega)]
      · rw [if_neg q3, if_pos ⟨by omega, by omega, by omega⟩]
    · rw [if_neg (by omega), if_neg (fun h => q ⟨h.1, by omega, h.2.2⟩)]
theorem ctE (hn : n < 2147483648) (ha : 0 ≤ a ∧ a ≤ 1000) : f_L_count_105 z r (k : Int) (n : Int) (ea k r) 3 a (ep k r) = f_L_count_130 (zn z 3 (a + ep k r)) r (k : Int) (n : Int) 4 (z.2.2 4) (eh k n r) := by
  have i1 : idiv (n : Int) 3 = ((n / 3 : Nat) : Int) := by rw [idiv_n (by omega) (by omega) (by decide) (by decide)]; omega
  have i2 : irem ((n / 3 : Nat) : Int) 5 = ((n / 3 % 5 : Nat) : Int) := by rw [irem_n (by omega) (by omega) (by decide) (by decide)]; omega
  have hw : wr (a + ep k r) = a + ep k r := by unfold ep; split <;> exact wr_s (by omega) (by omega)
  unfold f_L_count_105 f_L_count_129
  rw [g16 (by decide) (by decide), bl_s, hw, i1, i2]
  show (if ea k r = 0 then _ else (if ((n / 3 % 5 : Nat) : Int) ≤ 0 then _ else _)) = _
  unfold ea eh
  by_cases q : 7 ≤ k ∧ k ≤ 9 ∧ 0 < r
  · rw [if_pos q, if_neg z10]
    by_cases q2 : n / 3 % 5 = 0
    · rw [if_pos (by omega), if_neg (fun h => by omega)]; rfl
    · rw [if_neg (by omega), if_pos ⟨q.1, q.2.1, q.2.2, by omega⟩]; rfl
  · rw [if_neg q, if_pos rfl, if_neg (fun h => q ⟨h.1, h.2.1, h.2.2.1⟩)]; rfl
theorem ctF (ha : 0 ≤ a ∧ a ≤ 1000) : f_L_count_130 z r (k : Int) (n : Int) 4 a (eh k n r) = f_L_count_153 (zn z 4 (a + eh k n r)) r (k : Int) (n : Int) (e1 k r) := by
  have hw : wr (a + eh k n r) = a + eh k n r := by unfold eh; split <;> exact wr_s (by omega) (by omega)
  unfold f_L_count_130 f_L_count_152
  rw [g16 (by decide) (by decide), bl_s, hw]
  show (if (k : Int) ≤ 10 then _ else (if 14 ≤ (k : Int) then _ else (if r < 0 then _ else _))) = _
  unfold e1
  by_cases q : k ≤ 10
  · rw [if_pos (by omega), if_neg (fun h => by omega)]; rfl
  · rw [if_neg (by omega)]
    by_cases q2 : 14 ≤ k
    · rw [if_pos (by omega), if_neg (fun h => by omega)]; rfl
    · rw [if_neg (by omega)]
      by_cases q3 : r < 0
      · rw [if_pos q3, if_neg (fun h => by omega)]; rfl
      · rw [if_neg q3, if_pos ⟨by omega, by omega, by omega⟩]; rfl
theorem ctG (hn : n < 2147483648) : f_L_count_153 z r (k : Int) (n : Int) (e1 k r) = f_L_count_177 z (k : Int) (n : Int) (e1 k r) (e2 k n r) := by
  have i1 : irem (n : Int) 3 = ((n % 3 : Nat) : Int) := by rw [irem_n (by omega) (by omega) (by decide) (by decide)]; omega
  unfold f_L_count_153 f_L_count_176
  rw [i1]
  unfold e2
  by_cases q : k = 14
  · rw [if_pos (by omega)]
    by_cases q2 : n % 3 = 0
    · rw [if_pos (by omega)]
      by_cases q3 : r < 0
      · rw [if_pos q3, if_neg (fun h => by omega)]
      · rw [if_neg q3, if_pos ⟨q, q2, by omega⟩]
    · rw [if_neg (by omega), if_neg (fun h => q2 h.2.1)]
  · rw [if_neg (by omega), if_neg (fun h => q h.1)]
theorem ctH : f_L_count_177 z (k : Int) (n : Int) (e1 k r) (e2 k n r) = f_L_count_193 z (k : Int) (n : Int) (e1 k r) (e2 k n r) 1 (z.2.2 1) (e1 k r) := by
  unfold f_L_count_177 e1
  by_cases q : 11 ≤ k ∧ k ≤ 13 ∧ 0 ≤ r
  · rw [if_pos q, if_neg z10]
  · rw [if_neg q, if_pos rfl]
theorem ctI (ha : 0 ≤ a ∧ a ≤ 1000) : f_L_count_193 z (k : Int) (n : Int) (e1 k r) (e2 k n r) 1 a (e1 k r) = f_L_count_209 (zn z 1 (a + e1 k r)) (k : Int) (n : Int) (e1 k r) (e2 k n r) 2 (z.2.2 2) (e2 k n r) := by
  have hw : wr (a + e1 k r) = a + e1 k r := by unfold e1; split <;> exact wr_s (by omega) (by omega)
  unfold f_L_count_193
  rw [g16 (by decide) (by decide), bl_s, hw]
  show (if e2 k n r = 0 then _ else _) = _
  unfold e2
  by_cases q : k = 14 ∧ n % 3 = 0 ∧ 0 ≤ r
  · rw [if_pos q, if_neg z10]; rfl
  · rw [if_neg q, if_pos rfl]; rfl
theorem ctJ (hn : n < 2147483648) : f_L_count_209 z (k : Int) (n : Int) (e1 k r) (e2 k n r) 2 a (e2 k n r) = some (if ecl k n r then zn (zn (zn z 2 (wr (a + e2 k n r))) 3 0) 4 0 else zn z 2 (wr (a + e2 k n r))) := by
  have i1 : irem (n : Int) 3 = ((n % 3 : Nat) : Int) := by rw [irem_n (by omega) (by omega) (by decide) (by decide)]; omega
  unfold f_L_count_209
  rw [g16 (by decide) (by decide), bl_s, i1]
  have e235 : ∀ z : ZQ, f_L_count_235 z = some (zn (zn z 3 0) 4 0) := fun z => rfl
  by_cases q1 : 11 ≤ k ∧ k ≤ 13 ∧ 0 ≤ r
  · have h1 : e1 k r = 1 := if_pos q1
    rw [h1, if_neg z10, e235, if_pos (Or.inl q1)]
    rfl
  · have h1 : e1 k r = 0 := if_neg q1
    rw [h1, if_pos rfl]
    by_cases q2 : k = 14 ∧ n % 3 = 0 ∧ 0 ≤ r
    · have h2 : e2 k n r = 1 := if_pos q2
      rw [h2, if_neg z10, e235, if_pos (Or.inr (Or.inl q2))]
      rfl
    · have h2 : e2 k n r = 0 := if_neg q2
      rw [h2, if_pos rfl]
      by_cases q3 : k = 14 ∧ n % 3 = 1
      · rw [if_pos (by omega), if_pos (by omega), e235, if_pos (Or.inr (Or.inr q3))]
        rfl
      · have hno : ¬ ecl k n r := fun h => by
          rcases h with h | h | h
          · exact q1 h
          · exact q2 h
          · exact q3 h
        rw [if_neg hno]
        by_cases q4 : k = 14
        · rw [if_pos (by omega), if_neg (fun h => q3 ⟨q4, by omega⟩)]
          rfl
        · rw [if_neg (by omega)]
          rfl
end CNT
/-- how the numbers go with an action's answer -/
def Ef (wB wB' : World) (k n : Nat) (r : Int) : Prop := wB' 1 7 = wB 1 7 + e0 k r ∧ wB' 1 14 = wB 1 14 + e1 k r ∧ wB' 1 1 = wB 1 1 + e5 k n r ∧
  (ecl k n r → wB' 16 18 = 0 ∧ hB wB' = 0) ∧ (¬ ecl k n r → wB' 16 18 = wB 16 18 + ep k r ∧ (hB wB' : Int) = hB wB + eh k n r)
theorem count_law {z : ZQ} {wA wB wB' : World} {x k n : Nat} {r : Int} (h0 : II wA wB) (hN : NT z.2.2 wB) (hx : x < 2147483648) (hk : k = x % 16) (hn : n = x / 16) (hE : Ef wB wB' k n r) : ∃ z', f_L_count z (x : Int) r = some z' ∧ z'.1 = z.1 ∧ z'.2.1 = z.2.1 ∧ NT z'.2.2 wB' := by
  obtain ⟨n0, n1, n3, n4, n5⟩ := hN
  obtain ⟨r0, r1, r3, r4, r5⟩ := num_rng h0
  obtain ⟨f0, f1, f5, fc, fn⟩ := hE
  have hn2 : n < 2147483648 := by omega
  have t := ctA (z := z) (r := r) hx hk hn
  rw [ctB hn2 (by omega), ctC (by show 0 ≤ z.2.2 5 ∧ z.2.2 5 ≤ 1000; omega), ctD, ctE hn2 (by show 0 ≤ z.2.2 3 ∧ z.2.2 3 ≤ 1000; omega), ctF (by show 0 ≤ z.2.2 4 ∧ z.2.2 4 ≤ 1000; omega), ctG hn2, ctH, ctI (by show 0 ≤ z.2.2 1 ∧ z.2.2 1 ≤ 1000; omega), ctJ hn2] at t
  refine ⟨_, t, ?_, ?_, ?_⟩
  · split <;> rfl
  · split <;> rfl
  · by_cases q : ecl k n r
    · rw [if_pos q]
      refine ⟨?_, ?_, ?_, ?_, ?_⟩
      · show z.2.2 0 + e0 k r = _
        rw [f0, n0]
      · show z.2.2 1 + e1 k r = _
        rw [f1, n1]
      · show (0 : Int) = _
        rw [(fc q).1]
      · show (0 : Int) = _
        rw [(fc q).2]
        rfl
      · show z.2.2 5 + e5 k n r = _
        rw [f5, n5]
    · rw [if_neg q]
      refine ⟨?_, ?_, ?_, ?_, ?_⟩
      · show z.2.2 0 + e0 k r = _
        rw [f0, n0]
      · show z.2.2 1 + e1 k r = _
        rw [f1, n1]
      · show z.2.2 3 + ep k r = _
        rw [(fn q).1, n3]
      · show z.2.2 4 + eh k n r = _
        rw [(fn q).2, n4]
      · show z.2.2 5 + e5 k n r = _
        rw [f5, n5]
