/-! BOTH: the start -/
set_option maxRecDepth 100000 in
theorem a0_104 : ∀ v, wA0 104 v = 0 := fun v => rfl
theorem b0_23 : ∀ v, wB0 23 v = 0 := fun v => rfl
noncomputable def g0 (i : Nat) : Nat := if i < 4 then (wA0 108 i).toNat else (wA0 109 (i - 4)).toNat
set_option maxRecDepth 100000 in
theorem s0_sch : ∀ r : Nat, r < 10 → wA0 3 r = 0 ∧ wA0 4 r = 0 ∧ wA0 5 r = 0 ∧ wA0 21 r = 0 ∧ wB0 2 r = 0 ∧ wB0 3 r = 0 ∧ wB0 4 r = 0 ∧ wB0 5 r = 0 ∧ wB0 6 r = 0 := by decide +kernel
set_option maxRecDepth 100000 in
theorem s0_one : wA0 7 0 = 0 ∧ wA0 7 1 = 0 ∧ wA0 14 4 = 0 ∧ wA0 14 5 = 0 ∧ wA0 14 7 = 0 ∧ wA0 1 12 = 0 ∧ wA0 94 0 = 0 ∧ wA0 94 1 = -1 ∧ wA0 150 0 = 0 ∧ wB0 1 1 = 0 ∧ wB0 1 7 = 0 ∧ wB0 1 14 = 0 ∧ wB0 1 15 = 0 ∧ wB0 16 18 = 0 ∧ wB0 14 18 = -1 := by decide +kernel
set_option maxRecDepth 100000 in
theorem s0_rul : ∀ j : Nat, j < 12 → wA0 19 j = ((22 + 4 * j : Nat) : Int) := by decide +kernel
set_option maxRecDepth 100000 in
theorem s0_den : ∀ j : Nat, j < 6 → wA0 20 j = ((70 + 4 * j : Nat) : Int) := by decide +kernel
set_option maxRecDepth 100000 in
theorem s0_g : ∀ i : Nat, i < 8 → 110 ≤ g0 i ∧ g0 i < 150 ∧ (g0 i - 110) % 5 = 0 ∧ ∀ j : Nat, j < 8 → g0 i = g0 j → i = j := by decide +kernel
set_option maxRecDepth 100000 in
theorem s0_h : ∀ h : Nat, h < 4 → wA0 108 h = (g0 h : Int) ∧ wA0 109 h = (g0 (4 + h) : Int) ∧ wA0 (g0 h) 1 = 0 ∧ wA0 (g0 h) 2 = 0 ∧ wB0 20 h = 0 ∧ ∀ r : Nat, r < 10 → wA0 (g0 h + 1) r = -1 := by decide +kernel
theorem least_nil {D : SH} {lv : Int → Nat} {FF : MM} {RR : RU → Prop} {ρ c : Nat → Nat} (hF : ∀ r n, ¬ FF r n) (hR : ∀ R, ¬ RR R) : Least D lv FF RR (AM 0 ρ c) := by
  have no : ∀ r n, ¬ AM 0 ρ c r n := by
    rintro r n ⟨x, hx, -⟩
    exact absurd hx (Nat.not_lt_zero x)
  exact ⟨⟨fun r n h => absurd h (no r n), fun r n m h => absurd h (no r n)⟩, fun s => ⟨⟨fun r n h => absurd h (hF r n), fun R h => absurd h (hR R)⟩, fun M' _ _ _ r n _ h => absurd h (no r n)⟩⟩
theorem start_II : II wA0 wB0 := by
  obtain ⟨o1, o2, o3, o4, o5, o6, o7, o8, o9, o10, o11, o12, o13, o14, o15⟩ := s0_one
  have hF : ∀ (hour wo : Int) r n, ¬ FFA 0 wA0 hour wo r n := by
    rintro hour wo r n ⟨f, hf, -⟩
    exact absurd hf (Nat.not_lt_zero f)
  have hFB : ∀ (hour wo : Int) r n, ¬ FFB 0 wB0 hour wo r n := by
    rintro hour wo r n ⟨f, hf, -⟩
    exact absurd hf (Nat.not_lt_zero f)
  have hR : ∀ R, ¬ RrA 0 wA0 R := by
    rintro R ⟨i, hi, -⟩
    exact absurd hi (Nat.not_lt_zero i)
  have hRB : ∀ R, ¬ RrB 0 wB0 R := by
    rintro R ⟨i, hi, -⟩
    exact absurd hi (Nat.not_lt_zero i)
  have hW : WfS wA0 := fun r hr => by
    obtain ⟨a3, a4, a5, -⟩ := s0_sch r hr
    rw [a3, a4, a5]
    exact ⟨by omega, by omega, by omega, fun z => absurd z (by decide), fun _ => ⟨rfl, rfl⟩⟩
  have hSch : ISch wA0 wB0 := by
    refine ⟨hW, fun r hr => ?_⟩
    obtain ⟨a3, a4, a5, a21, b2, b3, b4, b5, b6⟩ := s0_sch r hr
    rw [a3, a4, a5, b2, b3, b4, b5]
    exact ⟨rfl, rfl, rfl, rfl⟩
  have hRef : IRef g0 wA0 := by
    refine ⟨fun i hi => ?_, fun i j hi hj he => (s0_g i hi).2.2.2 j hj he, fun h h4 => ⟨(s0_h h h4).1, (s0_h h h4).2.1⟩⟩
    obtain ⟨x1, x2, x3, -⟩ := s0_g i hi
    exact ⟨(g0 i - 110) / 5, by omega, by omega⟩
  have hLow : Low 0 0 0 0 0 (fun _ => 0) wA0 wB0 := by
    refine ⟨hSch, ⟨⟨o1, by omega, fun f hf => absurd hf (Nat.not_lt_zero f)⟩, ⟨o11, by omega, fun f hf => absurd hf (Nat.not_lt_zero f)⟩, fun f hf => absurd hf (Nat.not_lt_zero f), o2⟩, ⟨⟨hW, o3, by omega, s0_rul, fun j hj => absurd hj (Nat.not_lt_zero j)⟩, ⟨o12, by omega, fun j hj => absurd hj (Nat.not_lt_zero j)⟩, fun j hj => absurd hj (Nat.not_lt_zero j)⟩, ⟨o4, o13, by omega, s0_den, fun j hj => absurd hj (Nat.not_lt_zero j)⟩, IDrf_nil hSch.T o7 o8 o14 o15, ⟨o6, o10, by omega⟩, ⟨fun q hq => (s0_sch q hq).2.2.2.1, o5, fun _ _ => Nat.le_refl _, Or.inl rfl⟩, fun q hq => (s0_sch q hq).2.2.2.2.2.2.2.2, by omega, fun R h => absurd h (hR R), fun lv _ q _ => Nat.zero_le _⟩
  refine ⟨0, 0, 0, 0, 0, fun _ => 0, g0, Inv_of hLow hRef (fun h h4 => ?_) (fun h h4 => ?_) (fun v => by rw [a0_104]; omega) (fun v _ => by rw [b0_23]; omega)⟩
  · obtain ⟨x1, x2, x3, x4, x5, x6⟩ := s0_h h h4
    refine HAt.c o9 ⟨0, fun _ => 0, fun _ => 0, fun _ => [], ⟨x3, by omega, fun r hr => x6 r hr, fun r s _ => ⟨fun z => absurd z List.not_mem_nil, fun z => absurd z.1 (Nat.not_lt_zero s)⟩, fun s hs => absurd hs (Nat.not_lt_zero s), fun r _ => List.Pairwise.nil⟩, fun s hs => absurd hs (Nat.not_lt_zero s), x4, least_nil (hF _ _) hR⟩
  · obtain ⟨x1, x2, x3, x4, x5, x6⟩ := s0_h h h4
    exact ⟨0, fun _ => 0, fun _ => 0, ⟨by omega, x5, by omega, fun s hs => absurd hs (Nat.not_lt_zero s), fun s s' hs => absurd hs (Nat.not_lt_zero s)⟩, fun s hs => absurd hs (Nat.not_lt_zero s), by omega, least_nil (hFB _ _) hRB⟩
