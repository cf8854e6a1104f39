theorem J_foldL {ω : Type} {K : KT} {Wd : ω → Heap → List Loc → Prop} {w : ω} {pc : Nat} {L L' : List (Option Value)} {st : List Value} (h : L = L') (k : Jj K Wd w pc L' st) : Jj K Wd w pc L st := by rw [h]; exact k
theorem J_fold {ω : Type} {K : KT} {Wd : ω → Heap → List Loc → Prop} {w w' : ω} {pc : Nat} {L : List (Option Value)} {st : List Value} (h : w = w') (k : Jj K Wd w' pc L st) : Jj K Wd w pc L st := by rw [h]; exact k
theorem upo {w : World} {c k c' k' : Nat} {v : Int} (h : ¬ (c' = c ∧ k' = k)) : up w c k v c' k' = w c' k' := if_neg h
theorem dfX8 : ∀ j, j < 4 → defaultValue (tyX8 j) = if TA.isref 9 j = true then .null else .int 0 := by decide +kernel
def i_Sc_init (w : World) : World := (up (up (up (up w 2 0 (3 : Nat)) 2 1 (4 : Nat)) 2 2 (5 : Nat)) 2 3 (6 : Nat))
abbrev rm_Sc_init : Room := { frames := 1, cells := 4, slots := 40, locals := 24 }
set_option maxRecDepth 100000 in
set_option maxHeartbeats 4000000 in
theorem c_Sc_init {S : EE} {l : Launch} {ad : Nat → Nat} {w : World} (hI : Inj (tr TA 2) (sad S ad)) (hz : Zn 2 w) (hr : Rn TA 2 w) : ConC TA S 2 6 l yX8_init (WS yX8_init cX8_init 1 none) rm_Sc_init [.ref (ad 2)] ad w (i_Sc_init w) := by
  refine con_C (by decide +kernel) rfl (Nat.le_of_ble_eq_true rfl) (c1s_a c1s_0 (Nat.le_of_ble_eq_true rfl)).1 hI TnA (by omega) ?_
  intro K H0 o g kc _ hret
  refine J_aldA_n o dX8_init_0 rfl ?_
  refine J_objinit o dX8_init_1 mw144 mw137 mw138 ⟨by decide, by decide⟩ ?_
  refine J_aldA_n o dX8_init_4 rfl ?_
  refine J_bipush o.1 dX8_init_5 (by decide) ?_
  refine J_newI (N := 10) (n := 2) o TnA g kc dX8_init_7 mw158 kA_3 (Int.ofNat.inj (zA_3 : ((TA.ln 3 : Nat) : Int) = ((10 : Nat) : Int))) (by decide) hz hr rfl rfl ⟨Nat.le_of_ble_eq_true rfl, Nat.le_of_ble_eq_true rfl⟩ ?_
  intro K1 ad1 q1 sim1 o1 kc1 ag1 hq1 g1
  have f2 : ad1 2 = (ad 2) := ((ag1.1 2 (by omega)).trans (rfl : ad 2 = ad 2))
  have agx1 := Ag.trans Ag.refl ag1 (by omega) (Nat.le_refl _)
  have simx1 := KSim.trans KSim.refl sim1
  have hz3 := Zn_le (m := 3) hz (by omega)
  have hr3 := Rn_le (m := 3) hr (by omega)
  refine J_t2 (rfa (S := S) f2 (by omega)) ?_
  refine J_t1 (rfa (S := S) hq1 (by omega)) ?_
  refine J_putF o1 g1 dX8_init_9 fpfX8_9 (tr_kd kA_2 (by omega)) rfl rfl (by have := lt_A kA_3 (by decide); omega) (Or.inr ⟨_, rfl⟩) ?_
  have hz4 := Zn_up (c := 2) (k := 0) (v := (3 : Nat)) hz3 (by omega)
  have hr4 := Rn_up (c := 2) (k := 0) (v := (3 : Nat)) hr3 (by omega)
  refine J_aldA_n o1 dX8_init_12 rfl ?_
  refine J_bipush o1.1 dX8_init_13 (by decide) ?_
  refine J_newI (N := 10) (n := 3) o1 TnA g1 kc1 dX8_init_15 mw158 kA_4 (Int.ofNat.inj (zA_4 : ((TA.ln 4 : Nat) : Int) = ((10 : Nat) : Int))) (by decide) hz4 hr4 rfl rfl ⟨Nat.le_of_ble_eq_true rfl, Nat.le_of_ble_eq_true rfl⟩ ?_
  intro K5 ad5 q5 sim5 o5 kc5 ag5 hq5 g5
  have f6 : ad5 2 = (ad 2) := ((ag5.1 2 (by omega)).trans f2)
  have agx5 := Ag.trans agx1 ag5 (by omega) (Nat.le_refl _)
  have simx5 := KSim.trans simx1 sim5
  have hz7 := Zn_le (m := 4) hz4 (by omega)
  have hr7 := Rn_le (m := 4) hr4 (by omega)
  refine J_t2 (rfa (S := S) f6 (by omega)) ?_
  refine J_t1 (rfa (S := S) hq5 (by omega)) ?_
  refine J_putF o5 g5 dX8_init_17 fpfX8_15 (tr_kd kA_2 (by omega)) rfl rfl (by have := lt_A kA_4 (by decide); omega) (Or.inr ⟨_, rfl⟩) ?_
  have hz8 := Zn_up (c := 2) (k := 1) (v := (4 : Nat)) hz7 (by omega)
  have hr8 := Rn_up (c := 2) (k := 1) (v := (4 : Nat)) hr7 (by omega)
  refine J_aldA_n o5 dX8_init_20 rfl ?_
  refine J_bipush o5.1 dX8_init_21 (by decide) ?_
  refine J_newI (N := 10) (n := 4) o5 TnA g5 kc5 dX8_init_23 mw158 kA_5 (Int.ofNat.inj (zA_5 : ((TA.ln 5 : Nat) : Int) = ((10 : Nat) : Int))) (by decide) hz8 hr8 rfl rfl ⟨Nat.le_of_ble_eq_true rfl, Nat.le_of_ble_eq_true rfl⟩ ?_
  intro K9 ad9 q9 sim9 o9 kc9 ag9 hq9 g9
  have f10 : ad9 2 = (ad 2) := ((ag9.1 2 (by omega)).trans f6)
  have agx9 := Ag.trans agx5 ag9 (by omega) (Nat.le_refl _)
  have simx9 := KSim.trans simx5 sim9
  have hz11 := Zn_le (m := 5) hz8 (by omega)
  have hr11 := Rn_le (m := 5) hr8 (by omega)
  refine J_t2 (rfa (S := S) f10 (by omega)) ?_
  refine J_t1 (rfa (S := S) hq9 (by omega)) ?_
  refine J_putF o9 g9 dX8_init_25 fpfX8_18 (tr_kd kA_2 (by omega)) rfl rfl (by have := lt_A kA_5 (by decide); omega) (Or.inr ⟨_, rfl⟩) ?_
  have hz12 := Zn_up (c := 2) (k := 2) (v := (5 : Nat)) hz11 (by omega)
  have hr12 := Rn_up (c := 2) (k := 2) (v := (5 : Nat)) hr11 (by omega)
  refine J_aldA_n o9 dX8_init_28 rfl ?_
  refine J_bipush o9.1 dX8_init_29 (by decide) ?_
  refine J_newI (N := 10) (n := 5) o9 TnA g9 kc9 dX8_init_31 mw158 kA_6 (Int.ofNat.inj (zA_6 : ((TA.ln 6 : Nat) : Int) = ((10 : Nat) : Int))) (by decide) hz12 hr12 rfl rfl ⟨Nat.le_of_ble_eq_true rfl, Nat.le_of_ble_eq_true rfl⟩ ?_
  intro K13 ad13 q13 sim13 o13 kc13 ag13 hq13 g13
  have f14 : ad13 2 = (ad 2) := ((ag13.1 2 (by omega)).trans f10)
  have agx13 := Ag.trans agx9 ag13 (by omega) (Nat.le_refl _)
  have simx13 := KSim.trans simx9 sim13
  have hz15 := Zn_le (m := 6) hz12 (by omega)
  have hr15 := Rn_le (m := 6) hr12 (by omega)
  refine J_t2 (rfa (S := S) f14 (by omega)) ?_
  refine J_t1 (rfa (S := S) hq13 (by omega)) ?_
  refine J_putF o13 g13 dX8_init_33 fpfX8_21 (tr_kd kA_2 (by omega)) rfl rfl (by have := lt_A kA_6 (by decide); omega) (Or.inr ⟨_, rfl⟩) ?_
  have hz16 := Zn_up (c := 2) (k := 3) (v := (6 : Nat)) hz15 (by omega)
  have hr16 := Rn_up (c := 2) (k := 3) (v := (6 : Nat)) hr15 (by omega)
  exact hret _ _ _ _ _ _ simx13 kc13 ⟨Nat.le_of_ble_eq_true rfl, Nat.le_of_ble_eq_true rfl⟩ agx13 g13 dX8_init_36
theorem z_Sc_init {w : World} (hz : Zn 2 w) : Zn 6 (i_Sc_init w) := by
  have hz3 := Zn_le (m := 3) hz (by omega)
  have hz4 := Zn_up (c := 2) (k := 0) (v := (3 : Nat)) hz3 (by omega)
  have hz7 := Zn_le (m := 4) hz4 (by omega)
  have hz8 := Zn_up (c := 2) (k := 1) (v := (4 : Nat)) hz7 (by omega)
  have hz11 := Zn_le (m := 5) hz8 (by omega)
  have hz12 := Zn_up (c := 2) (k := 2) (v := (5 : Nat)) hz11 (by omega)
  have hz15 := Zn_le (m := 6) hz12 (by omega)
  have hz16 := Zn_up (c := 2) (k := 3) (v := (6 : Nat)) hz15 (by omega)
  exact hz16
theorem rn_Sc_init {w : World} (hr : Rn TA 2 w) : Rn TA 6 (i_Sc_init w) := by
  have hr3 := Rn_le (m := 3) hr (by omega)
  have hr4 := Rn_up (c := 2) (k := 0) (v := (3 : Nat)) hr3 (by omega)
  have hr7 := Rn_le (m := 4) hr4 (by omega)
  have hr8 := Rn_up (c := 2) (k := 1) (v := (4 : Nat)) hr7 (by omega)
  have hr11 := Rn_le (m := 5) hr8 (by omega)
  have hr12 := Rn_up (c := 2) (k := 2) (v := (5 : Nat)) hr11 (by omega)
  have hr15 := Rn_le (m := 6) hr12 (by omega)
  have hr16 := Rn_up (c := 2) (k := 3) (v := (6 : Nat)) hr15 (by omega)
  exact hr16
theorem dfX2 : ∀ j, j < 8 → defaultValue (tyX2 j) = if TA.isref 3 j = true then .null else .int 0 := by decide +kernel
def i_Fa_init (w : World) : World := (up (up (up (up (up (up w 7 2 (8 : Nat)) 7 3 (9 : Nat)) 7 4 (10 : Nat)) 7 5 (11 : Nat)) 7 6 (12 : Nat)) 7 7 (13 : Nat))
abbrev rm_Fa_init : Room := { frames := 1, cells := 6, slots := 144, locals := 24 }
set_option maxRecDepth 100000 in
set_option maxHeartbeats 4000000 in
theorem c_Fa_init {S : EE} {l : Launch} {ad : Nat → Nat} {w : World} (hI : Inj (tr TA 7) (sad S ad)) (hz : Zn 7 w) (hr : Rn TA 7 w) : ConC TA S 7 13 l yX2_init (WS yX2_init cX2_init 1 none) rm_Fa_init [.ref (ad 7)] ad w (i_Fa_init w) := by
  refine con_C (by decide +kernel) rfl (Nat.le_of_ble_eq_true rfl) (c1s_a c1s_0 (Nat.le_of_ble_eq_true rfl)).1 hI TnA (by omega) ?_
  intro K H0 o g kc _ hret
  refine J_aldA_n o dX2_init_0 rfl ?_
  refine J_objinit o dX2_init_1 mw164 mw137 mw138 ⟨by decide, by decide⟩ ?_
  refine J_aldA_n o dX2_init_4 rfl ?_
  refine J_bipush o.1 dX2_init_5 (by decide) ?_
  refine J_newI (N := 24) (n := 7) o TnA g kc dX2_init_7 mw158 kA_8 (Int.ofNat.inj (zA_8 : ((TA.ln 8 : Nat) : Int) = ((24 : Nat) : Int))) (by decide) hz hr rfl rfl ⟨Nat.le_of_ble_eq_true rfl, Nat.le_of_ble_eq_true rfl⟩ ?_
  intro K1 ad1 q1 sim1 o1 kc1 ag1 hq1 g1
  have f2 : ad1 7 = (ad 7) := ((ag1.1 7 (by omega)).trans (rfl : ad 7 = ad 7))
  have agx1 := Ag.trans Ag.refl ag1 (by omega) (Nat.le_refl _)
  have simx1 := KSim.trans KSim.refl sim1
  have hz3 := Zn_le (m := 8) hz (by omega)
  have hr3 := Rn_le (m := 8) hr (by omega)
  refine J_t2 (rfa (S := S) f2 (by omega)) ?_
  refine J_t1 (rfa (S := S) hq1 (by omega)) ?_
  refine J_putF o1 g1 dX2_init_9 fpfX2_9 (tr_kd kA_7 (by omega)) rfl rfl (by have := lt_A kA_8 (by decide); omega) (Or.inr ⟨_, rfl⟩) ?_
  have hz4 := Zn_up (c := 7) (k := 2) (v := (8 : Nat)) hz3 (by omega)
  have hr4 := Rn_up (c := 7) (k := 2) (v := (8 : Nat)) hr3 (by omega)
  refine J_aldA_n o1 dX2_init_12 rfl ?_
  refine J_bipush o1.1 dX2_init_13 (by decide) ?_
  refine J_newI (N := 24) (n := 8) o1 TnA g1 kc1 dX2_init_15 mw158 kA_9 (Int.ofNat.inj (zA_9 : ((TA.ln 9 : Nat) : Int) = ((24 : Nat) : Int))) (by decide) hz4 hr4 rfl rfl ⟨Nat.le_of_ble_eq_true rfl, Nat.le_of_ble_eq_true rfl⟩ ?_
  intro K5 ad5 q5 sim5 o5 kc5 ag5 hq5 g5
  have f6 : ad5 7 = (ad 7) := ((ag5.1 7 (by omega)).trans f2)
  have agx5 := Ag.trans agx1 ag5 (by omega) (Nat.le_refl _)
  have simx5 := KSim.trans simx1 sim5
  have hz7 := Zn_le (m := 9) hz4 (by omega)
  have hr7 := Rn_le (m := 9) hr4 (by omega)
  refine J_t2 (rfa (S := S) f6 (by omega)) ?_
  refine J_t1 (rfa (S := S) hq5 (by omega)) ?_
  refine J_putF o5 g5 dX2_init_17 fpfX2_15 (tr_kd kA_7 (by omega)) rfl rfl (by have := lt_A kA_9 (by decide); omega) (Or.inr ⟨_, rfl⟩) ?_
  have hz8 := Zn_up (c := 7) (k := 3) (v := (9 : Nat)) hz7 (by omega)
  have hr8 := Rn_up (c := 7) (k := 3) (v := (9 : Nat)) hr7 (by omega)
  refine J_aldA_n o5 dX2_init_20 rfl ?_
  refine J_bipush o5.1 dX2_init_21 (by decide) ?_
  refine J_newI (N := 24) (n := 9) o5 TnA g5 kc5 dX2_init_23 mw158 kA_10 (Int.ofNat.inj (zA_10 : ((TA.ln 10 : Nat) : Int) = ((24 : Nat) : Int))) (by decide) hz8 hr8 rfl rfl ⟨Nat.le_of_ble_eq_true rfl, Nat.le_of_ble_eq_true rfl⟩ ?_
  intro K9 ad9 q9 sim9 o9 kc9 ag9 hq9 g9
  have f10 : ad9 7 = (ad 7) := ((ag9.1 7 (by omega)).trans f6)
  have agx9 := Ag.trans agx5 ag9 (by omega) (Nat.le_refl _)
  have simx9 := KSim.trans simx5 sim9
  have hz11 := Zn_le (m := 10) hz8 (by omega)
  have hr11 := Rn_le (m := 10) hr8 (by omega)
  refine J_t2 (rfa (S := S) f10 (by omega)) ?_
  refine J_t1 (rfa (S := S) hq9 (by omega)) ?_
  refine J_putF o9 g9 dX2_init_25 fpfX2_18 (tr_kd kA_7 (by omega)) rfl rfl (by have := lt_A kA_10 (by decide); omega) (Or.inr ⟨_, rfl⟩) ?_
  have hz12 := Zn_up (c := 7) (k := 4) (v := (10 : Nat)) hz11 (by omega)
  have hr12 := Rn_up (c := 7) (k := 4) (v := (10 : Nat)) hr11 (by omega)
  refine J_aldA_n o9 dX2_init_28 rfl ?_
  refine J_bipush o9.1 dX2_init_29 (by decide) ?_
  refine J_newI (N := 24) (n := 10) o9 TnA g9 kc9 dX2_init_31 mw158 kA_11 (Int.ofNat.inj (zA_11 : ((TA.ln 11 : Nat) : Int) = ((24 : Nat) : Int))) (by decide) hz12 hr12 rfl rfl ⟨Nat.le_of_ble_eq_true rfl, Nat.le_of_ble_eq_true rfl⟩ ?_
  intro K13 ad13 q13 sim13 o13 kc13 ag13 hq13 g13
  have f14 : ad13 7 = (ad 7) := ((ag13.1 7 (by omega)).trans f10)
  have agx13 := Ag.trans agx9 ag13 (by omega) (Nat.le_refl _)
  have simx13 := KSim.trans simx9 sim13
  have hz15 := Zn_le (m := 11) hz12 (by omega)
  have hr15 := Rn_le (m := 11) hr12 (by omega)
  refine J_t2 (rfa (S := S) f14 (by omega)) ?_
  refine J_t1 (rfa (S := S) hq13 (by omega)) ?_
  refine J_putF o13 g13 dX2_init_33 fpfX2_21 (tr_kd kA_7 (by omega)) rfl rfl (by have := lt_A kA_11 (by decide); omega) (Or.inr ⟨_, rfl⟩) ?_
  have hz16 := Zn_up (c := 7) (k := 5) (v := (11 : Nat)) hz15 (by omega)
  have hr16 := Rn_up (c := 7) (k := 5) (v := (11 : Nat)) hr15 (by omega)
  refine J_aldA_n o13 dX2_init_36 rfl ?_
  refine J_bipush o13.1 dX2_init_37 (by decide) ?_
  refine J_newI (N := 24) (n := 11) o13 TnA g13 kc13 dX2_init_39 mw158 kA_12 (Int.ofNat.inj (zA_12 : ((TA.ln 12 : Nat) : Int) = ((24 : Nat) : Int))) (by decide) hz16 hr16 rfl rfl ⟨Nat.le_of_ble_eq_true rfl, Nat.le_of_ble_eq_true rfl⟩ ?_
  intro K17 ad17 q17 sim17 o17 kc17 ag17 hq17 g17
  have f18 : ad17 7 = (ad 7) := ((ag17.1 7 (by omega)).trans f14)
  have agx17 := Ag.trans agx13 ag17 (by omega) (Nat.le_refl _)
  have simx17 := KSim.trans simx13 sim17
  have hz19 := Zn_le (m := 12) hz16 (by omega)
  have hr19 := Rn_le (m := 12) hr16 (by omega)
  refine J_t2 (rfa (S := S) f18 (by omega)) ?_
  refine J_t1 (rfa (S := S) hq17 (by omega)) ?_
  refine J_putF o17 g17 dX2_init_41 fpfX2_24 (tr_kd kA_7 (by omega)) rfl rfl (by have := lt_A kA_12 (by decide); omega) (Or.inr ⟨_, rfl⟩) ?_
  have hz20 := Zn_up (c := 7) (k := 6) (v := (12 : Nat)) hz19 (by omega)
  have hr20 := Rn_up (c := 7) (k := 6) (v := (12 : Nat)) hr19 (by omega)
  refine J_aldA_n o17 dX2_init_44 rfl ?_
  refine J_bipush o17.1 dX2_init_45 (by decide) ?_
  refine J_newZ (N := 24) (n := 12) o17 TnA g17 kc17 dX2_init_47 mw193 kA_13 (Int.ofNat.inj (zA_13 : ((TA.ln 13 : Nat) : Int) = ((24 : Nat) : Int))) (by decide) hz20 hr20 rfl rfl ⟨Nat.le_of_ble_eq_true rfl, Nat.le_of_ble_eq_true rfl⟩ ?_
  intro K21 ad21 q21 sim21 o21 kc21 ag21 hq21 g21
  have f22 : ad21 7 = (ad 7) := ((ag21.1 7 (by omega)).trans f18)
  have agx21 := Ag.trans agx17 ag21 (by omega) (Nat.le_refl _)
  have simx21 := KSim.trans simx17 sim21
  have hz23 := Zn_le (m := 13) hz20 (by omega)
  have hr23 := Rn_le (m := 13) hr20 (by omega)
  refine J_t2 (rfa (S := S) f22 (by omega)) ?_
  refine J_t1 (rfa (S := S) hq21 (by omega)) ?_
  refine J_putF o21 g21 dX2_init_49 fpfX2_27 (tr_kd kA_7 (by omega)) rfl rfl (by have := lt_A kA_13 (by decide); omega) (Or.inr ⟨_, rfl⟩) ?_
  have hz24 := Zn_up (c := 7) (k := 7) (v := (13 : Nat)) hz23 (by omega)
  have hr24 := Rn_up (c := 7) (k := 7) (v := (13 : Nat)) hr23 (by omega)
  exact hret _ _ _ _ _ _ simx21 kc21 ⟨Nat.le_of_ble_eq_true rfl, Nat.le_of_ble_eq_true rfl⟩ agx21 g21 dX2_init_52
theorem z_Fa_init {w : World} (hz : Zn 7 w) : Zn 13 (i_Fa_init w) := by
  have hz3 := Zn_le (m := 8) hz (by omega)
  have hz4 := Zn_up (c := 7) (k := 2) (v := (8 : Nat)) hz3 (by omega)
  have hz7 := Zn_le (m := 9) hz4 (by omega)
  have hz8 := Zn_up (c := 7) (k := 3) (v := (9 : Nat)) hz7 (by omega)
  have hz11 := Zn_le (m := 10) hz8 (by omega)
  have hz12 := Zn_up (c := 7) (k := 4) (v := (10 : Nat)) hz11 (by omega)
  have hz15 := Zn_le (m := 11) hz12 (by omega)
  have hz16 := Zn_up (c := 7) (k := 5) (v := (11 : Nat)) hz15 (by omega)
  have hz19 := Zn_le (m := 12) hz16 (by omega)
  have hz20 := Zn_up (c := 7) (k := 6) (v := (12 : Nat)) hz19 (by omega)
  have hz23 := Zn_le (m := 13) hz20 (by omega)
  have hz24 := Zn_up (c := 7) (k := 7) (v := (13 : Nat)) hz23 (by omega)
  exact hz24
theorem rn_Fa_init {w : World} (hr : Rn TA 7 w) : Rn TA 13 (i_Fa_init w) := by
  have hr3 := Rn_le (m := 8) hr (by omega)
  have hr4 := Rn_up (c := 7) (k := 2) (v := (8 : Nat)) hr3 (by omega)
  have hr7 := Rn_le (m := 9) hr4 (by omega)
  have hr8 := Rn_up (c := 7) (k := 3) (v := (9 : Nat)) hr7 (by omega)
  have hr11 := Rn_le (m := 10) hr8 (by omega)
  have hr12 := Rn_up (c := 7) (k := 4) (v := (10 : Nat)) hr11 (by omega)
  have hr15 := Rn_le (m := 11) hr12 (by omega)
  have hr16 := Rn_up (c := 7) (k := 5) (v := (11 : Nat)) hr15 (by omega)
  have hr19 := Rn_le (m := 12) hr16 (by omega)
  have hr20 := Rn_up (c := 7) (k := 6) (v := (12 : Nat)) hr19 (by omega)
  have hr23 := Rn_le (m := 13) hr20 (by omega)
  have hr24 := Rn_up (c := 7) (k := 7) (v := (13 : Nat)) hr23 (by omega)
  exact hr24
theorem dfX0 : ∀ j, j < 6 → defaultValue (tyX0 j) = if TA.isref 1 j = true then .null else .int 0 := by decide +kernel
def i_Bo_init (w : World) (n : Nat) : World := (up (up (up (up w n 1 (-1)) n 3 ((n + 1) : Nat)) n 4 ((n + 2) : Nat)) n 5 ((n + 3) : Nat))
abbrev rm_Bo_init : Room := { frames := 1, cells := 3, slots := 28, locals := 24 }
set_option maxRecDepth 100000 in
set_option maxHeartbeats 4000000 in
theorem c_Bo_init {S : EE} {l : Launch} {n : Nat} (hk : TA.kd n = 1) {ad : Nat → Nat} {w : World} (hI : Inj (tr TA n) (sad S ad)) (hz : Zn n w) (hr : Rn TA n w) : ConC TA S n (n + 3) l yX0_init (WS yX0_init cX0_init 1 none) rm_Bo_init [.ref (ad n)] ad w (i_Bo_init w n) := by
  refine con_C (by decide +kernel) rfl (Nat.le_of_ble_eq_true rfl) (c1s_a c1s_0 (Nat.le_of_ble_eq_true rfl)).1 hI TnA (by omega) ?_
  intro K H0 o g kc _ hret
  have h0 : n ≠ 0 := (TnA n (by omega)).1
  refine J_aldA_n o dX0_init_0 rfl ?_
  refine J_objinit o dX0_init_1 mw205 mw137 mw138 ⟨by decide, by decide⟩ ?_
  refine J_aldA_n o dX0_init_4 rfl ?_
  refine J_iconst o.1 dX0_init_5 ?_
  refine J_t2 (rfa (S := S) (rfl : ad n = ad n) (by omega)) ?_
  refine J_putI o.1 g dX0_init_6 fpX0_9 (tr_kd hk (by omega)) rfl rfl rlm1 ?_
  have hz1 := Zn_up (c := n) (k := 1) (v := (-1)) hz (by omega)
  have hr1 := Rn_up (c := n) (k := 1) (v := (-1)) hr (by omega)
  refine J_aldA_n o dX0_init_9 rfl ?_
  refine J_iconst o.1 dX0_init_10 ?_
  refine J_newI (N := 5) (n := n) o TnA g kc dX0_init_11 mw158 (krA_1_1 hk) (Int.ofNat.inj ((zrA_1_1 hk) : ((TA.ln (n + 1) : Nat) : Int) = ((5 : Nat) : Int))) (by decide) hz1 hr1 rfl rfl ⟨Nat.le_of_ble_eq_true rfl, Nat.le_of_ble_eq_true rfl⟩ ?_
  intro K2 ad2 q2 sim2 o2 kc2 ag2 hq2 g2
  have f3 : ad2 n = (ad n) := ((ag2.1 n (by omega)).trans (rfl : ad n = ad n))
  have agx2 := Ag.trans Ag.refl ag2 (by omega) (Nat.le_refl _)
  have simx2 := KSim.trans KSim.refl sim2
  have hz4 := Zn_le (m := (n + 1)) hz1 (by omega)
  have hr4 := Rn_le (m := (n + 1)) hr1 (by omega)
  refine J_t2 (rfa (S := S) f3 (by omega)) ?_
  refine J_t1 (rfa (S := S) hq2 (by omega)) ?_
  refine J_putF o2 g2 dX0_init_13 fpfX0_15 (tr_kd hk (by omega)) rfl rfl (by have := lt_A (krA_1_1 hk) (by decide); omega) (Or.inr ⟨_, rfl⟩) ?_
  have hz5 := Zn_up (c := n) (k := 3) (v := ((n + 1) : Nat)) hz4 (by omega)
  have hr5 := Rn_up (c := n) (k := 3) (v := ((n + 1) : Nat)) hr4 (by omega)
  refine J_aldA_n o2 dX0_init_16 rfl ?_
  refine J_iconst o2.1 dX0_init_17 ?_
  refine J_newI (N := 5) (n := (n + 1)) o2 TnA g2 kc2 dX0_init_18 mw158 (krA_1_2 hk) (Int.ofNat.inj ((zrA_1_2 hk) : ((TA.ln (n + 2) : Nat) : Int) = ((5 : Nat) : Int))) (by decide) hz5 hr5 rfl rfl ⟨Nat.le_of_ble_eq_true rfl, Nat.le_of_ble_eq_true rfl⟩ ?_
  intro K6 ad6 q6 sim6 o6 kc6 ag6 hq6 g6
  have f7 : ad6 n = (ad n) := ((ag6.1 n (by omega)).trans f3)
  have agx6 := Ag.trans agx2 ag6 (by omega) (Nat.le_refl _)
  have simx6 := KSim.trans simx2 sim6
  have hz8 := Zn_le (m := (n + 2)) hz5 (by omega)
  have hr8 := Rn_le (m := (n + 2)) hr5 (by omega)
  refine J_t2 (rfa (S := S) f7 (by omega)) ?_
  refine J_t1 (rfa (S := S) hq6 (by omega)) ?_
  refine J_putF o6 g6 dX0_init_20 fpfX0_19 (tr_kd hk (by omega)) rfl rfl (by have := lt_A (krA_1_2 hk) (by decide); omega) (Or.inr ⟨_, rfl⟩) ?_
  have hz9 := Zn_up (c := n) (k := 4) (v := ((n + 2) : Nat)) hz8 (by omega)
  have hr9 := Rn_up (c := n) (k := 4) (v := ((n + 2) : Nat)) hr8 (by omega)
  refine J_aldA_n o6 dX0_init_23 rfl ?_
  refine J_bipush o6.1 dX0_init_24 (by decide) ?_
  refine J_newI (N := 18) (n := (n + 2)) o6 TnA g6 kc6 dX0_init_26 mw158 (krA_1_3 hk) (Int.ofNat.inj ((zrA_1_3 hk) : ((TA.ln (n + 3) : Nat) : Int) = ((18 : Nat) : Int))) (by decide) hz9 hr9 rfl rfl ⟨Nat.le_of_ble_eq_true rfl, Nat.le_of_ble_eq_true rfl⟩ ?_
  intro K10 ad10 q10 sim10 o10 kc10 ag10 hq10 g10
  have f11 : ad10 n = (ad n) := ((ag10.1 n (by omega)).trans f7)
  have agx10 := Ag.trans agx6 ag10 (by omega) (Nat.le_refl _)
  have simx10 := KSim.trans simx6 sim10
  have hz12 := Zn_le (m := (n + 3)) hz9 (by omega)
  have hr12 := Rn_le (m := (n + 3)) hr9 (by omega)
  refine J_t2 (rfa (S := S) f11 (by omega)) ?_
  refine J_t1 (rfa (S := S) hq10 (by omega)) ?_
  refine J_putF o10 g10 dX0_init_28 fpfX0_22 (tr_kd hk (by omega)) rfl rfl (by have := lt_A (krA_1_3 hk) (by decide); omega) (Or.inr ⟨_, rfl⟩) ?_
  have hz13 := Zn_up (c := n) (k := 5) (v := ((n + 3) : Nat)) hz12 (by omega)
  have hr13 := Rn_up (c := n) (k := 5) (v := ((n + 3) : Nat)) hr12 (by omega)
  exact hret _ _ _ _ _ _ simx10 kc10 ⟨Nat.le_of_ble_eq_true rfl, Nat.le_of_ble_eq_true rfl⟩ agx10 g10 dX0_init_31
theorem z_Bo_init {n : Nat} {w : World} (hz : Zn n w) : Zn (n + 3) (i_Bo_init w n) := by
  have hz1 := Zn_up (c := n) (k := 1) (v := (-1)) hz (by omega)
  have hz4 := Zn_le (m := (n + 1)) hz1 (by omega)
  have hz5 := Zn_up (c := n) (k := 3) (v := ((n + 1) : Nat)) hz4 (by omega)
  have hz8 := Zn_le (m := (n + 2)) hz5 (by omega)
  have hz9 := Zn_up (c := n) (k := 4) (v := ((n + 2) : Nat)) hz8 (by omega)
  have hz12 := Zn_le (m := (n + 3)) hz9 (by omega)
  have hz13 := Zn_up (c := n) (k := 5) (v := ((n + 3) : Nat)) hz12 (by omega)
  exact hz13
theorem rn_Bo_init {n : Nat} {w : World} (hr : Rn TA n w) : Rn TA (n + 3) (i_Bo_init w n) := by
  have hr1 := Rn_up (c := n) (k := 1) (v := (-1)) hr (by omega)
  have hr4 := Rn_le (m := (n + 1)) hr1 (by omega)
  have hr5 := Rn_up (c := n) (k := 3) (v := ((n + 1) : Nat)) hr4 (by omega)
  have hr8 := Rn_le (m := (n + 2)) hr5 (by omega)
  have hr9 := Rn_up (c := n) (k := 4) (v := ((n + 2) : Nat)) hr8 (by omega)
  have hr12 := Rn_le (m := (n + 3)) hr9 (by omega)
  have hr13 := Rn_up (c := n) (k := 5) (v := ((n + 3) : Nat)) hr12 (by omega)
  exact hr13
theorem fr_Bo_init {w : World} {n c k : Nat} (h : c ≠ n) : i_Bo_init w n c k = w c k := by
  unfold i_Bo_init
  simp [up, h]
theorem dfX7 : ∀ j, j < 8 → defaultValue (tyX7 j) = if TA.isref 8 j = true then .null else .int 0 := by decide +kernel
def iw_Pr_init_0 (w : World) : World := (i_Bo_init w 15)
def iw_Pr_init_1 (w : World) : World := (up (iw_Pr_init_0 w) 14 1 (15 : Nat))
def iw_Pr_init_2 (w : World) : World := (up (iw_Pr_init_1 w) 14 2 (19 : Nat))
def iw_Pr_init_3 (w : World) : World := (up (iw_Pr_init_2 w) 14 3 (20 : Nat))
def iw_Pr_init_4 (w : World) : World := (up (iw_Pr_init_3 w) 14 6 (21 : Nat))
def iw_Pr_init_5 (w : World) : World := (up (iw_Pr_init_4 w) 14 0 (2 : Nat))
theorem iv_Pr_init_2_14_2 (w : World) : iw_Pr_init_2 w 14 2 = (19 : Nat) := up_eq
theorem iv_Pr_init_3_14_2 (w : World) : iw_Pr_init_3 w 14 2 = (19 : Nat) := (upo (c := 14) (k := 3) (c' := 14) (k' := 2) (by decide)).trans (iv_Pr_init_2_14_2 w)
theorem iv_Pr_init_4_14_2 (w : World) : iw_Pr_init_4 w 14 2 = (19 : Nat) := (upo (c := 14) (k := 6) (c' := 14) (k' := 2) (by decide)).trans (iv_Pr_init_3_14_2 w)
theorem iv_Pr_init_5_14_2 (w : World) : iw_Pr_init_5 w 14 2 = (19 : Nat) := (upo (c := 14) (k := 0) (c' := 14) (k' := 2) (by decide)).trans (iv_Pr_init_4_14_2 w)
def iw_Pr_init_6 (w : World) : World := (i_Bo_init (iw_Pr_init_5 w) 22)
def iw_Pr_init_7 (w : World) : World := (up (iw_Pr_init_6 w) 19 0 (22 : Nat))
theorem iv_Pr_init_6_14_2 (w : World) : iw_Pr_init_6 w 14 2 = (19 : Nat) := (fr_Bo_init (n := 22) (c := 14) (k := 2) (by decide)).trans (iv_Pr_init_5_14_2 w)
theorem iv_Pr_init_7_14_2 (w : World) : iw_Pr_init_7 w 14 2 = (19 : Nat) := (upo (c := 19) (k := 0) (c' := 14) (k' := 2) (by decide)).trans (iv_Pr_init_6_14_2 w)
def iw_Pr_init_8 (w : World) : World := (i_Bo_init (iw_Pr_init_7 w) 26)
def iw_Pr_init_9 (w : World) : World := (up (iw_Pr_init_8 w) 19 1 (26 : Nat))
theorem iv_Pr_init_8_14_2 (w : World) : iw_Pr_init_8 w 14 2 = (19 : Nat) := (fr_Bo_init (n := 26) (c := 14) (k := 2) (by decide)).trans (iv_Pr_init_7_14_2 w)
theorem iv_Pr_init_9_14_2 (w : World) : iw_Pr_init_9 w 14 2 = (19 : Nat) := (upo (c := 19) (k := 1) (c' := 14) (k' := 2) (by decide)).trans (iv_Pr_init_8_14_2 w)
def iw_Pr_init_10 (w : World) : World := (i_Bo_init (iw_Pr_init_9 w) 30)
def iw_Pr_init_11 (w : World) : World := (up (iw_Pr_init_10 w) 19 2 (30 : Nat))
theorem iv_Pr_init_10_14_2 (w : World) : iw_Pr_init_10 w 14 2 = (19 : Nat) := (fr_Bo_init (n := 30) (c := 14) (k := 2) (by decide)).trans (iv_Pr_init_9_14_2 w)
theorem iv_Pr_init_11_14_2 (w : World) : iw_Pr_init_11 w 14 2 = (19 : Nat) := (upo (c := 19) (k := 2) (c' := 14) (k' := 2) (by decide)).trans (iv_Pr_init_10_14_2 w)
def iw_Pr_init_12 (w : World) : World := (i_Bo_init (iw_Pr_init_11 w) 34)
def iw_Pr_init_13 (w : World) : World := (up (iw_Pr_init_12 w) 19 3 (34 : Nat))
theorem iv_Pr_init_12_14_2 (w : World) : iw_Pr_init_12 w 14 2 = (19 : Nat) := (fr_Bo_init (n := 34) (c := 14) (k := 2) (by decide)).trans (iv_Pr_init_11_14_2 w)
theorem iv_Pr_init_13_14_2 (w : World) : iw_Pr_init_13 w 14 2 = (19 : Nat) := (upo (c := 19) (k := 3) (c' := 14) (k' := 2) (by decide)).trans (iv_Pr_init_12_14_2 w)
def iw_Pr_init_14 (w : World) : World := (i_Bo_init (iw_Pr_init_13 w) 38)
def iw_Pr_init_15 (w : World) : World := (up (iw_Pr_init_14 w) 19 4 (38 : Nat))
theorem iv_Pr_init_14_14_2 (w : World) : iw_Pr_init_14 w 14 2 = (19 : Nat) := (fr_Bo_init (n := 38) (c := 14) (k := 2) (by decide)).trans (iv_Pr_init_13_14_2 w)
theorem iv_Pr_init_15_14_2 (w : World) : iw_Pr_init_15 w 14 2 = (19 : Nat) := (upo (c := 19) (k := 4) (c' := 14) (k' := 2) (by decide)).trans (iv_Pr_init_14_14_2 w)
def iw_Pr_init_16 (w : World) : World := (i_Bo_init (iw_Pr_init_15 w) 42)
def iw_Pr_init_17 (w : World) : World := (up (iw_Pr_init_16 w) 19 5 (42 : Nat))
theorem iv_Pr_init_16_14_2 (w : World) : iw_Pr_init_16 w 14 2 = (19 : Nat) := (fr_Bo_init (n := 42) (c := 14) (k := 2) (by decide)).trans (iv_Pr_init_15_14_2 w)
theorem iv_Pr_init_17_14_2 (w : World) : iw_Pr_init_17 w 14 2 = (19 : Nat) := (upo (c := 19) (k := 5) (c' := 14) (k' := 2) (by decide)).trans (iv_Pr_init_16_14_2 w)
def iw_Pr_init_18 (w : World) : World := (i_Bo_init (iw_Pr_init_17 w) 46)
def iw_Pr_init_19 (w : World) : World := (up (iw_Pr_init_18 w) 19 6 (46 : Nat))
theorem iv_Pr_init_18_14_2 (w : World) : iw_Pr_init_18 w 14 2 = (19 : Nat) := (fr_Bo_init (n := 46) (c := 14) (k := 2) (by decide)).trans (iv_Pr_init_17_14_2 w)
theorem iv_Pr_init_19_14_2 (w : World) : iw_Pr_init_19 w 14 2 = (19 : Nat) := (upo (c := 19) (k := 6) (c' := 14) (k' := 2) (by decide)).trans (iv_Pr_init_18_14_2 w)
def iw_Pr_init_20 (w : World) : World := (i_Bo_init (iw_Pr_init_19 w) 50)
def iw_Pr_init_21 (w : World) : World := (up (iw_Pr_init_20 w) 19 7 (50 : Nat))
theorem iv_Pr_init_20_14_2 (w : World) : iw_Pr_init_20 w 14 2 = (19 : Nat) := (fr_Bo_init (n := 50) (c := 14) (k := 2) (by decide)).trans (iv_Pr_init_19_14_2 w)
theorem iv_Pr_init_21_14_2 (w : World) : iw_Pr_init_21 w 14 2 = (19 : Nat) := (upo (c := 19) (k := 7) (c' := 14) (k' := 2) (by decide)).trans (iv_Pr_init_20_14_2 w)
def iw_Pr_init_22 (w : World) : World := (i_Bo_init (iw_Pr_init_21 w) 54)
def iw_Pr_init_23 (w : World) : World := (up (iw_Pr_init_22 w) 19 8 (54 : Nat))
theorem iv_Pr_init_22_14_2 (w : World) : iw_Pr_init_22 w 14 2 = (19 : Nat) := (fr_Bo_init (n := 54) (c := 14) (k := 2) (by decide)).trans (iv_Pr_init_21_14_2 w)
theorem iv_Pr_init_23_14_2 (w : World) : iw_Pr_init_23 w 14 2 = (19 : Nat) := (upo (c := 19) (k := 8) (c' := 14) (k' := 2) (by decide)).trans (iv_Pr_init_22_14_2 w)
def iw_Pr_init_24 (w : World) : World := (i_Bo_init (iw_Pr_init_23 w) 58)
def iw_Pr_init_25 (w : World) : World := (up (iw_Pr_init_24 w) 19 9 (58 : Nat))
theorem iv_Pr_init_24_14_2 (w : World) : iw_Pr_init_24 w 14 2 = (19 : Nat) := (fr_Bo_init (n := 58) (c := 14) (k := 2) (by decide)).trans (iv_Pr_init_23_14_2 w)
theorem iv_Pr_init_25_14_2 (w : World) : iw_Pr_init_25 w 14 2 = (19 : Nat) := (upo (c := 19) (k := 9) (c' := 14) (k' := 2) (by decide)).trans (iv_Pr_init_24_14_2 w)
def iw_Pr_init_26 (w : World) : World := (i_Bo_init (iw_Pr_init_25 w) 62)
def iw_Pr_init_27 (w : World) : World := (up (iw_Pr_init_26 w) 19 10 (62 : Nat))
theorem iv_Pr_init_26_14_2 (w : World) : iw_Pr_init_26 w 14 2 = (19 : Nat) := (fr_Bo_init (n := 62) (c := 14) (k := 2) (by decide)).trans (iv_Pr_init_25_14_2 w)
theorem iv_Pr_init_27_14_2 (w : World) : iw_Pr_init_27 w 14 2 = (19 : Nat) := (upo (c := 19) (k := 10) (c' := 14) (k' := 2) (by decide)).trans (iv_Pr_init_26_14_2 w)
def iw_Pr_init_28 (w : World) : World := (i_Bo_init (iw_Pr_init_27 w) 66)
def iw_Pr_init_29 (w : World) : World := (up (iw_Pr_init_28 w) 19 11 (66 : Nat))
theorem iv_Pr_init_28_14_2 (w : World) : iw_Pr_init_28 w 14 2 = (19 : Nat) := (fr_Bo_init (n := 66) (c := 14) (k := 2) (by decide)).trans (iv_Pr_init_27_14_2 w)
theorem iv_Pr_init_29_14_2 (w : World) : iw_Pr_init_29 w 14 2 = (19 : Nat) := (upo (c := 19) (k := 11) (c' := 14) (k' := 2) (by decide)).trans (iv_Pr_init_28_14_2 w)
theorem iv_Pr_init_3_14_3 (w : World) : iw_Pr_init_3 w 14 3 = (20 : Nat) := up_eq
theorem iv_Pr_init_4_14_3 (w : World) : iw_Pr_init_4 w 14 3 = (20 : Nat) := (upo (c := 14) (k := 6) (c' := 14) (k' := 3) (by decide)).trans (iv_Pr_init_3_14_3 w)
theorem iv_Pr_init_5_14_3 (w : World) : iw_Pr_init_5 w 14 3 = (20 : Nat) := (upo (c := 14) (k := 0) (c' := 14) (k' := 3) (by decide)).trans (iv_Pr_init_4_14_3 w)
theorem iv_Pr_init_6_14_3 (w : World) : iw_Pr_init_6 w 14 3 = (20 : Nat) := (fr_Bo_init (n := 22) (c := 14) (k := 3) (by decide)).trans (iv_Pr_init_5_14_3 w)
theorem iv_Pr_init_7_14_3 (w : World) : iw_Pr_init_7 w 14 3 = (20 : Nat) := (upo (c := 19) (k := 0) (c' := 14) (k' := 3) (by decide)).trans (iv_Pr_init_6_14_3 w)
theorem iv_Pr_init_8_14_3 (w : World) : iw_Pr_init_8 w 14 3 = (20 : Nat) := (fr_Bo_init (n := 26) (c := 14) (k := 3) (by decide)).trans (iv_Pr_init_7_14_3 w)
theorem iv_Pr_init_9_14_3 (w : World) : iw_Pr_init_9 w 14 3 = (20 : Nat) := (upo (c := 19) (k := 1) (c' := 14) (k' := 3) (by decide)).trans (iv_Pr_init_8_14_3 w)
theorem iv_Pr_init_10_14_3 (w : World) : iw_Pr_init_10 w 14 3 = (20 : Nat) := (fr_Bo_init (n := 30) (c := 14) (k := 3) (by decide)).trans (iv_Pr_init_9_14_3 w)
theorem iv_Pr_init_11_14_3 (w : World) : iw_Pr_init_11 w 14 3 = (20 : Nat) := (upo (c := 19) (k := 2) (c' := 14) (k' := 3) (by decide)).trans (iv_Pr_init_10_14_3 w)
theorem iv_Pr_init_12_14_3 (w : World) : iw_Pr_init_12 w 14 3 = (20 : Nat) := (fr_Bo_init (n := 34) (c := 14) (k := 3) (by decide)).trans (iv_Pr_init_11_14_3 w)
theorem iv_Pr_init_13_14_3 (w : World) : iw_Pr_init_13 w 14 3 = (20 : Nat) := (upo (c := 19) (k := 3) (c' := 14) (k' := 3) (by decide)).trans (iv_Pr_init_12_14_3 w)
theorem iv_Pr_init_14_14_3 (w : World) : iw_Pr_init_14 w 14 3 = (20 : Nat) := (fr_Bo_init (n := 38) (c := 14) (k := 3) (by decide)).trans (iv_Pr_init_13_14_3 w)
theorem iv_Pr_init_15_14_3 (w : World) : iw_Pr_init_15 w 14 3 = (20 : Nat) := (upo (c := 19) (k := 4) (c' := 14) (k' := 3) (by decide)).trans (iv_Pr_init_14_14_3 w)
theorem iv_Pr_init_16_14_3 (w : World) : iw_Pr_init_16 w 14 3 = (20 : Nat) := (fr_Bo_init (n := 42) (c := 14) (k := 3) (by decide)).trans (iv_Pr_init_15_14_3 w)
theorem iv_Pr_init_17_14_3 (w : World) : iw_Pr_init_17 w 14 3 = (20 : Nat) := (upo (c := 19) (k := 5) (c' := 14) (k' := 3) (by decide)).trans (iv_Pr_init_16_14_3 w)
theorem iv_Pr_init_18_14_3 (w : World) : iw_Pr_init_18 w 14 3 = (20 : Nat) := (fr_Bo_init (n := 46) (c := 14) (k := 3) (by decide)).trans (iv_Pr_init_17_14_3 w)
theorem iv_Pr_init_19_14_3 (w : World) : iw_Pr_init_19 w 14 3 = (20 : Nat) := (upo (c := 19) (k := 6) (c' := 14) (k' := 3) (by decide)).trans (iv_Pr_init_18_14_3 w)
theorem iv_Pr_init_20_14_3 (w : World) : iw_Pr_init_20 w 14 3 = (20 : Nat) := (fr_Bo_init (n := 50) (c := 14) (k := 3) (by decide)).trans (iv_Pr_init_19_14_3 w)
theorem iv_Pr_init_21_14_3 (w : World) : iw_Pr_init_21 w 14 3 = (20 : Nat) := (upo (c := 19) (k := 7) (c' := 14) (k' := 3) (by decide)).trans (iv_Pr_init_20_14_3 w)
theorem iv_Pr_init_22_14_3 (w : World) : iw_Pr_init_22 w 14 3 = (20 : Nat) := (fr_Bo_init (n := 54) (c := 14) (k := 3) (by decide)).trans (iv_Pr_init_21_14_3 w)
theorem iv_Pr_init_23_14_3 (w : World) : iw_Pr_init_23 w 14 3 = (20 : Nat) := (upo (c := 19) (k := 8) (c' := 14) (k' := 3) (by decide)).trans (iv_Pr_init_22_14_3 w)
theorem iv_Pr_init_24_14_3 (w : World) : iw_Pr_init_24 w 14 3 = (20 : Nat) := (fr_Bo_init (n := 58) (c := 14) (k := 3) (by decide)).trans (iv_Pr_init_23_14_3 w)
theorem iv_Pr_init_25_14_3 (w : World) : iw_Pr_init_25 w 14 3 = (20 : Nat) := (upo (c := 19) (k := 9) (c' := 14) (k' := 3) (by decide)).trans (iv_Pr_init_24_14_3 w)
theorem iv_Pr_init_26_14_3 (w : World) : iw_Pr_init_26 w 14 3 = (20 : Nat) := (fr_Bo_init (n := 62) (c := 14) (k := 3) (by decide)).trans (iv_Pr_init_25_14_3 w)
theorem iv_Pr_init_27_14_3 (w : World) : iw_Pr_init_27 w 14 3 = (20 : Nat) := (upo (c := 19) (k := 10) (c' := 14) (k' := 3) (by decide)).trans (iv_Pr_init_26_14_3 w)
theorem iv_Pr_init_28_14_3 (w : World) : iw_Pr_init_28 w 14 3 = (20 : Nat) := (fr_Bo_init (n := 66) (c := 14) (k := 3) (by decide)).trans (iv_Pr_init_27_14_3 w)
theorem iv_Pr_init_29_14_3 (w : World) : iw_Pr_init_29 w 14 3 = (20 : Nat) := (upo (c := 19) (k := 11) (c' := 14) (k' := 3) (by decide)).trans (iv_Pr_init_28_14_3 w)
def iw_Pr_init_30 (w : World) : World := (i_Bo_init (iw_Pr_init_29 w) 70)
def iw_Pr_init_31 (w : World) : World := (up (iw_Pr_init_30 w) 20 0 (70 : Nat))
theorem iv_Pr_init_30_14_3 (w : World) : iw_Pr_init_30 w 14 3 = (20 : Nat) := (fr_Bo_init (n := 70) (c := 14) (k := 3) (by decide)).trans (iv_Pr_init_29_14_3 w)
theorem iv_Pr_init_31_14_3 (w : World) : iw_Pr_init_31 w 14 3 = (20 : Nat) := (upo (c := 20) (k := 0) (c' := 14) (k' := 3) (by decide)).trans (iv_Pr_init_30_14_3 w)
def iw_Pr_init_32 (w : World) : World := (i_Bo_init (iw_Pr_init_31 w) 74)
def iw_Pr_init_33 (w : World) : World := (up (iw_Pr_init_32 w) 20 1 (74 : Nat))
theorem iv_Pr_init_32_14_3 (w : World) : iw_Pr_init_32 w 14 3 = (20 : Nat) := (fr_Bo_init (n := 74) (c := 14) (k := 3) (by decide)).trans (iv_Pr_init_31_14_3 w)
theorem iv_Pr_init_33_14_3 (w : World) : iw_Pr_init_33 w 14 3 = (20 : Nat) := (upo (c := 20) (k := 1) (c' := 14) (k' := 3) (by decide)).trans (iv_Pr_init_32_14_3 w)
def iw_Pr_init_34 (w : World) : World := (i_Bo_init (iw_Pr_init_33 w) 78)
def iw_Pr_init_35 (w : World) : World := (up (iw_Pr_init_34 w) 20 2 (78 : Nat))
theorem iv_Pr_init_34_14_3 (w : World) : iw_Pr_init_34 w 14 3 = (20 : Nat) := (fr_Bo_init (n := 78) (c := 14) (k := 3) (by decide)).trans (iv_Pr_init_33_14_3 w)
theorem iv_Pr_init_35_14_3 (w : World) : iw_Pr_init_35 w 14 3 = (20 : Nat) := (upo (c := 20) (k := 2) (c' := 14) (k' := 3) (by decide)).trans (iv_Pr_init_34_14_3 w)
def iw_Pr_init_36 (w : World) : World := (i_Bo_init (iw_Pr_init_35 w) 82)
def iw_Pr_init_37 (w : World) : World := (up (iw_Pr_init_36 w) 20 3 (82 : Nat))
theorem iv_Pr_init_36_14_3 (w : World) : iw_Pr_init_36 w 14 3 = (20 : Nat) := (fr_Bo_init (n := 82) (c := 14) (k := 3) (by decide)).trans (iv_Pr_init_35_14_3 w)
theorem iv_Pr_init_37_14_3 (w : World) : iw_Pr_init_37 w 14 3 = (20 : Nat) := (upo (c := 20) (k := 3) (c' := 14) (k' := 3) (by decide)).trans (iv_Pr_init_36_14_3 w)
def iw_Pr_init_38 (w : World) : World := (i_Bo_init (iw_Pr_init_37 w) 86)
def iw_Pr_init_39 (w : World) : World := (up (iw_Pr_init_38 w) 20 4 (86 : Nat))
theorem iv_Pr_init_38_14_3 (w : World) : iw_Pr_init_38 w 14 3 = (20 : Nat) := (fr_Bo_init (n := 86) (c := 14) (k := 3) (by decide)).trans (iv_Pr_init_37_14_3 w)
theorem iv_Pr_init_39_14_3 (w : World) : iw_Pr_init_39 w 14 3 = (20 : Nat) := (upo (c := 20) (k := 4) (c' := 14) (k' := 3) (by decide)).trans (iv_Pr_init_38_14_3 w)
def iw_Pr_init_40 (w : World) : World := (i_Bo_init (iw_Pr_init_39 w) 90)
def iw_Pr_init_41 (w : World) : World := (up (iw_Pr_init_40 w) 20 5 (90 : Nat))
theorem iv_Pr_init_40_14_3 (w : World) : iw_Pr_init_40 w 14 3 = (20 : Nat) := (fr_Bo_init (n := 90) (c := 14) (k := 3) (by decide)).trans (iv_Pr_init_39_14_3 w)
theorem iv_Pr_init_41_14_3 (w : World) : iw_Pr_init_41 w 14 3 = (20 : Nat) := (upo (c := 20) (k := 5) (c' := 14) (k' := 3) (by decide)).trans (iv_Pr_init_40_14_3 w)
def i_Pr_init (w : World) : World := (iw_Pr_init_41 w)
abbrev rm_Pr_init : Room := { frames := 2, cells := 79, slots := 674, locals := 44 }
set_option maxRecDepth 100000 in
set_option maxHeartbeats 4000000 in
theorem c_Pr_init {S : EE} {l : Launch} {ad : Nat → Nat} {w : World} (hI : Inj (tr TA 14) (sad S ad)) (hz : Zn 14 w) (hr : Rn TA 14 w) : ConC TA S 14 93 l yX7_init (WS yX7_init cX7_init 3 none) rm_Pr_init [.ref (ad 14), .ref (ad 2)] ad w (i_Pr_init w) := by
  refine con_C (by decide +kernel) rfl (Nat.le_of_ble_eq_true rfl) (c1s_a (c1s_a c1s_0 (Nat.le_of_ble_eq_true rfl)) (Nat.le_of_ble_eq_true rfl)).1 hI TnA (by omega) ?_
  intro K H0 o g kc _ hret
  refine J_aldA_n o dX7_init_0 rfl ?_
  refine J_objinit o dX7_init_1 mw199 mw137 mw138 ⟨by decide, by decide⟩ ?_
  refine J_aldA_n o dX7_init_4 rfl ?_
  refine J_new (κ := 1) (n := 14) o TnA g kc dX7_init_5 mw200 mw201 mw116 rfl inWX0 tyX0_ok kA_15 ⟨by decide, by decide⟩ dfX0 hz hr rfl rfl ⟨Nat.le_of_ble_eq_true rfl, Nat.le_of_ble_eq_true rfl⟩ ?_
  intro K1 ad1 q1 sim1 o1 kc1 ag1 hq1 g1
  have f2 : ad1 14 = (ad 14) := ((ag1.1 14 (by omega)).trans (rfl : ad 14 = ad 14))
  have f3 : ad1 2 = (ad 2) := ((ag1.1 2 (by omega)).trans (rfl : ad 2 = ad 2))
  have agx1 := Ag.trans Ag.refl ag1 (by omega) (Nat.le_refl _)
  have simx1 := KSim.trans KSim.refl sim1
  have hz4 : Zn 15 w := Zn_le (m := 15) hz (by omega)
  have hr4 : Rn TA 15 w := Rn_le (m := 15) hr (by omega)
  refine J_dup o1.1 dX7_init_8 rfl ?_
  refine J_init (n := 15) (n' := 18) o1 TnA g1 kc1 dX7_init_9 lkX7_11 ml_Bo_init mw203 rfl ⟨Nat.le_of_ble_eq_true rfl, Nat.le_of_ble_eq_true rfl⟩ (b1 := q1) (vs' := []) (c_Bo_init (n := 15) kA_15 g1.2.1 hz4 hr4) (by rw [hq1]) rfl (by omega) rfl (c1s_a (c1s_a c1s_0 (Nat.le_of_ble_eq_true rfl)) (Nat.le_of_ble_eq_true rfl)) rfl rfl ⟨Nat.le_of_ble_eq_true rfl, Nat.le_of_ble_eq_true rfl⟩ ?_
  intro K5 ad5 sim5 o5 kc5 ag5 g5
  have f6 : ad5 14 = (ad 14) := ((ag5.1 14 (by omega)).trans f2)
  have f7 : ad5 2 = (ad 2) := ((ag5.1 2 (by omega)).trans f3)
  have f8 : ad5 15 = q1 := ((ag5.1 15 (by omega)).trans hq1)
  have agx5 := Ag.trans agx1 ag5 (by omega) (Nat.le_refl _)
  have simx5 := KSim.trans simx1 sim5
  refine J_fold (w' := (iw_Pr_init_0 w)) rfl ?_
  have hz9 : Zn 18 (iw_Pr_init_0 w) := z_Bo_init (n := 15) hz4
  have hr9 : Rn TA 18 (iw_Pr_init_0 w) := rn_Bo_init (n := 15) hr4
  refine J_t2 (rfa (S := S) f6 (by omega)) ?_
  refine J_t1 (rfa (S := S) f8 (by omega)) ?_
  refine J_putF o5 g5 dX7_init_12 fpfX7_12 (tr_kd kA_14 (by omega)) rfl rfl (by have := lt_A kA_15 (by decide); omega) (Or.inl ⟨_, rfl⟩) ?_
  refine J_fold (w' := (iw_Pr_init_1 w)) rfl ?_
  have hz10 : Zn 18 (iw_Pr_init_1 w) := Zn_up (c := 14) (k := 1) (v := (15 : Nat)) hz9 (by omega)
  have hr10 : Rn TA 18 (iw_Pr_init_1 w) := Rn_up (c := 14) (k := 1) (v := (15 : Nat)) hr9 (by omega)
  refine J_aldA_n o5 dX7_init_15 rfl ?_
  refine J_bipush o5.1 dX7_init_16 (by decide) ?_
  refine J_newO (N := 12) (n := 18) (i := 0) (Or.inl ⟨rfl, rfl⟩) o5 TnA g5 kc5 dX7_init_18 mw200 mt236 kA_19 (Int.ofNat.inj (zA_19 : ((TA.ln 19 : Nat) : Int) = ((12 : Nat) : Int))) (by decide) hz10 hr10 rfl rfl ⟨Nat.le_of_ble_eq_true rfl, Nat.le_of_ble_eq_true rfl⟩ ?_
  intro K11 ad11 q11 sim11 o11 kc11 ag11 hq11 g11
  have f12 : ad11 14 = (ad 14) := ((ag11.1 14 (by omega)).trans f6)
  have f13 : ad11 2 = (ad 2) := ((ag11.1 2 (by omega)).trans f7)
  have agx11 := Ag.trans agx5 ag11 (by omega) (Nat.le_refl _)
  have simx11 := KSim.trans simx5 sim11
  have hz14 : Zn 19 (iw_Pr_init_1 w) := Zn_le (m := 19) hz10 (by omega)
  have hr14 : Rn TA 19 (iw_Pr_init_1 w) := Rn_le (m := 19) hr10 (by omega)
  refine J_t2 (rfa (S := S) f12 (by omega)) ?_
  refine J_t1 (rfa (S := S) hq11 (by omega)) ?_
  refine J_putF o11 g11 dX7_init_21 fpfX7_18 (tr_kd kA_14 (by omega)) rfl rfl (by have := lt_A kA_19 (by decide); omega) (Or.inr ⟨_, rfl⟩) ?_
  refine J_fold (w' := (iw_Pr_init_2 w)) rfl ?_
  have hz15 : Zn 19 (iw_Pr_init_2 w) := Zn_up (c := 14) (k := 2) (v := (19 : Nat)) hz14 (by omega)
  have hr15 : Rn TA 19 (iw_Pr_init_2 w) := Rn_up (c := 14) (k := 2) (v := (19 : Nat)) hr14 (by omega)
  refine J_aldA_n o11 dX7_init_24 rfl ?_
  refine J_bipush o11.1 dX7_init_25 (by decide) ?_
  refine J_newO (N := 6) (n := 19) (i := 0) (Or.inl ⟨rfl, rfl⟩) o11 TnA g11 kc11 dX7_init_27 mw200 mt236 kA_20 (Int.ofNat.inj (zA_20 : ((TA.ln 20 : Nat) : Int) = ((6 : Nat) : Int))) (by decide) hz15 hr15 rfl rfl ⟨Nat.le_of_ble_eq_true rfl, Nat.le_of_ble_eq_true rfl⟩ ?_
  intro K16 ad16 q16 sim16 o16 kc16 ag16 hq16 g16
  have f17 : ad16 14 = (ad 14) := ((ag16.1 14 (by omega)).trans f12)
  have f18 : ad16 2 = (ad 2) := ((ag16.1 2 (by omega)).trans f13)
  have agx16 := Ag.trans agx11 ag16 (by omega) (Nat.le_refl _)
  have simx16 := KSim.trans simx11 sim16
  have hz19 : Zn 20 (iw_Pr_init_2 w) := Zn_le (m := 20) hz15 (by omega)
  have hr19 : Rn TA 20 (iw_Pr_init_2 w) := Rn_le (m := 20) hr15 (by omega)
  refine J_t2 (rfa (S := S) f17 (by omega)) ?_
  refine J_t1 (rfa (S := S) hq16 (by omega)) ?_
  refine J_putF o16 g16 dX7_init_30 fpfX7_22 (tr_kd kA_14 (by omega)) rfl rfl (by have := lt_A kA_20 (by decide); omega) (Or.inr ⟨_, rfl⟩) ?_
  refine J_fold (w' := (iw_Pr_init_3 w)) rfl ?_
  have hz20 : Zn 20 (iw_Pr_init_3 w) := Zn_up (c := 14) (k := 3) (v := (20 : Nat)) hz19 (by omega)
  have hr20 : Rn TA 20 (iw_Pr_init_3 w) := Rn_up (c := 14) (k := 3) (v := (20 : Nat)) hr19 (by omega)
  refine J_aldA_n o16 dX7_init_33 rfl ?_
  refine J_bipush o16.1 dX7_init_34 (by decide) ?_
  refine J_newI (N := 10) (n := 20) o16 TnA g16 kc16 dX7_init_36 mw158 kA_21 (Int.ofNat.inj (zA_21 : ((TA.ln 21 : Nat) : Int) = ((10 : Nat) : Int))) (by decide) hz20 hr20 rfl rfl ⟨Nat.le_of_ble_eq_true rfl, Nat.le_of_ble_eq_true rfl⟩ ?_
  intro K21 ad21 q21 sim21 o21 kc21 ag21 hq21 g21
  have f22 : ad21 14 = (ad 14) := ((ag21.1 14 (by omega)).trans f17)
  have f23 : ad21 2 = (ad 2) := ((ag21.1 2 (by omega)).trans f18)
  have agx21 := Ag.trans agx16 ag21 (by omega) (Nat.le_refl _)
  have simx21 := KSim.trans simx16 sim21
  have hz24 : Zn 21 (iw_Pr_init_3 w) := Zn_le (m := 21) hz20 (by omega)
  have hr24 : Rn TA 21 (iw_Pr_init_3 w) := Rn_le (m := 21) hr20 (by omega)
  refine J_t2 (rfa (S := S) f22 (by omega)) ?_
  refine J_t1 (rfa (S := S) hq21 (by omega)) ?_
  refine J_putF o21 g21 dX7_init_38 fpfX7_25 (tr_kd kA_14 (by omega)) rfl rfl (by have := lt_A kA_21 (by decide); omega) (Or.inr ⟨_, rfl⟩) ?_
  refine J_fold (w' := (iw_Pr_init_4 w)) rfl ?_
  have hz25 : Zn 21 (iw_Pr_init_4 w) := Zn_up (c := 14) (k := 6) (v := (21 : Nat)) hz24 (by omega)
  have hr25 : Rn TA 21 (iw_Pr_init_4 w) := Rn_up (c := 14) (k := 6) (v := (21 : Nat)) hr24 (by omega)
  refine J_aldA_n o21 dX7_init_41 rfl ?_
  refine J_aldA_n o21 dX7_init_42 rfl ?_
  refine J_t2 (rfa (S := S) f22 (by omega)) ?_
  refine J_t1 (rfa (S := S) f23 (by omega)) ?_
  refine J_putF o21 g21 dX7_init_43 fpfX7_29 (tr_kd kA_14 (by omega)) rfl rfl (by have := lt_A kA_2 (by decide); omega) (Or.inl ⟨_, rfl⟩) ?_
  refine J_fold (w' := (iw_Pr_init_5 w)) rfl ?_
  have hz26 : Zn 21 (iw_Pr_init_5 w) := Zn_up (c := 14) (k := 0) (v := (2 : Nat)) hz25 (by omega)
  have hr26 : Rn TA 21 (iw_Pr_init_5 w) := Rn_up (c := 14) (k := 0) (v := (2 : Nat)) hr25 (by omega)
  refine J_iconst o21.1 dX7_init_46 ?_
  refine J_istore_n o21.1 dX7_init_47 (Nat.le_of_ble_eq_true rfl) ?_
  refine J_foldL (L' := [some (.ref (ad 14)), some (.ref (ad 2)), some (.int (ii 0))]) rfl ?_
  refine J_iload_n o21.1 dX7_init_48 rfl ?_
  refine J_aldA_n o21 dX7_init_49 rfl ?_
  refine J_t1 (rfa (S := S) f22 (by omega)) ?_
  refine J_getR o21.1 g21 dX7_init_50 flX7_18 (tr_kd kA_14 (by omega)) rfl ?_
  refine J_t1 (congrArg (rf (sad S ad21).ad) ((congrArg Int.toNat (iv_Pr_init_5_14_2 w)).trans (rfl : _ = 19))) ?_
  refine J_alen o21.1 g21 dX7_init_53 (tr_kd kA_19 (by omega)) ⟨by decide, by decide⟩ zA_19 ?_
  refine J_icmp_ge 76 o21.1 dX7_init_54 (by decide) rl0 rl12 (fun c => absurd c (by decide)) (fun _ => ?_)
  refine J_aldA_n o21 dX7_init_57 rfl ?_
  refine J_t1 (rfa (S := S) f22 (by omega)) ?_
  refine J_getR o21.1 g21 dX7_init_58 flX7_18 (tr_kd kA_14 (by omega)) rfl ?_
  refine J_t1 (congrArg (rf (sad S ad21).ad) ((congrArg Int.toNat (iv_Pr_init_5_14_2 w)).trans (rfl : _ = 19))) ?_
  refine J_iload_n o21.1 dX7_init_61 rfl ?_
  refine J_new (κ := 1) (n := 21) o21 TnA g21 kc21 dX7_init_62 mw200 mw201 mw116 rfl inWX0 tyX0_ok kA_22 ⟨by decide, by decide⟩ dfX0 hz26 hr26 rfl rfl ⟨Nat.le_of_ble_eq_true rfl, Nat.le_of_ble_eq_true rfl⟩ ?_
  intro K27 ad27 q27 sim27 o27 kc27 ag27 hq27 g27
  have f28 : ad27 14 = (ad 14) := ((ag27.1 14 (by omega)).trans f22)
  have f29 : ad27 2 = (ad 2) := ((ag27.1 2 (by omega)).trans f23)
  have agx27 := Ag.trans agx21 ag27 (by omega) (Nat.le_refl _)
  have simx27 := KSim.trans simx21 sim27
  have hz30 : Zn 22 (iw_Pr_init_5 w) := Zn_le (m := 22) hz26 (by omega)
  have hr30 : Rn TA 22 (iw_Pr_init_5 w) := Rn_le (m := 22) hr26 (by omega)
  refine J_dup o27.1 dX7_init_65 rfl ?_
  refine J_init (n := 22) (n' := 25) o27 TnA g27 kc27 dX7_init_66 lkX7_11 ml_Bo_init mw203 rfl ⟨Nat.le_of_ble_eq_true rfl, Nat.le_of_ble_eq_true rfl⟩ (b1 := q27) (vs' := []) (c_Bo_init (n := 22) kA_22 g27.2.1 hz30 hr30) (by rw [hq27]) rfl (by omega) rfl (c1s_a (c1s_i (c1s_r c1s_0 (Nat.le_of_ble_eq_true rfl)) (Nat.le_of_ble_eq_true rfl)) (Nat.le_of_ble_eq_true rfl)) rfl rfl ⟨Nat.le_of_ble_eq_true rfl, Nat.le_of_ble_eq_true rfl⟩ ?_
  intro K31 ad31 sim31 o31 kc31 ag31 g31
  have f32 : ad31 14 = (ad 14) := ((ag31.1 14 (by omega)).trans f28)
  have f33 : ad31 2 = (ad 2) := ((ag31.1 2 (by omega)).trans f29)
  have f34 : ad31 22 = q27 := ((ag31.1 22 (by omega)).trans hq27)
  have agx31 := Ag.trans agx27 ag31 (by omega) (Nat.le_refl _)
  have simx31 := KSim.trans simx27 sim31
  refine J_fold (w' := (iw_Pr_init_6 w)) rfl ?_
  have hz35 : Zn 25 (iw_Pr_init_6 w) := z_Bo_init (n := 22) hz30
  have hr35 : Rn TA 25 (iw_Pr_init_6 w) := rn_Bo_init (n := 22) hr30
  refine J_t1 (rfa (S := S) f34 (by omega)) ?_
  refine J_t3 (rf_ag (S := S) (Ag.trans ag27 ag31 (by omega) (Nat.le_refl _)) (by omega)) ?_
  refine J_aast0 o31.1 g31 dX7_init_69 (tr_kd kA_19 (by omega)) rfl rl0 zA_19 ⟨by decide, by decide⟩ (tr_kd kA_22 (by omega)) rfl ⟨by decide, by decide⟩ (by have := lt_A kA_22 (by decide); omega) ?_
  refine J_fold (w' := (iw_Pr_init_7 w)) rfl ?_
  have hz36 : Zn 25 (iw_Pr_init_7 w) := Zn_up (c := 19) (k := 0) (v := (22 : Nat)) hz35 (by omega)
  have hr36 : Rn TA 25 (iw_Pr_init_7 w) := Rn_up (c := 19) (k := 0) (v := (22 : Nat)) hr35 (by omega)
  refine J_iincC (y := 1) o31 dX7_init_70 rfl (by decide +kernel) ?_
  refine J_foldL (L' := [some (.ref (ad 14)), some (.ref (ad 2)), some (.int (ii 1))]) rfl ?_
  refine J_goto 48 o31.1 dX7_init_73 (by decide) ?_
  refine J_iload_n o31.1 dX7_init_48 rfl ?_
  refine J_aldA_n o31 dX7_init_49 rfl ?_
  refine J_t1 (rfa (S := S) f32 (by omega)) ?_
  refine J_getR o31.1 g31 dX7_init_50 flX7_18 (tr_kd kA_14 (by omega)) rfl ?_
  refine J_t1 (congrArg (rf (sad S ad31).ad) ((congrArg Int.toNat (iv_Pr_init_7_14_2 w)).trans (rfl : _ = 19))) ?_
  refine J_alen o31.1 g31 dX7_init_53 (tr_kd kA_19 (by omega)) ⟨by decide, by decide⟩ zA_19 ?_
  refine J_icmp_ge 76 o31.1 dX7_init_54 (by decide) rl1 rl12 (fun c => absurd c (by decide)) (fun _ => ?_)
  refine J_aldA_n o31 dX7_init_57 rfl ?_
  refine J_t1 (rfa (S := S) f32 (by omega)) ?_
  refine J_getR o31.1 g31 dX7_init_58 flX7_18 (tr_kd kA_14 (by omega)) rfl ?_
  refine J_t1 (congrArg (rf (sad S ad31).ad) ((congrArg Int.toNat (iv_Pr_init_7_14_2 w)).trans (rfl : _ = 19))) ?_
  refine J_iload_n o31.1 dX7_init_61 rfl ?_
  refine J_new (κ := 1) (n := 25) o31 TnA g31 kc31 dX7_init_62 mw200 mw201 mw116 rfl inWX0 tyX0_ok kA_26 ⟨by decide, by decide⟩ dfX0 hz36 hr36 rfl rfl ⟨Nat.le_of_ble_eq_true rfl, Nat.le_of_ble_eq_true rfl⟩ ?_
  intro K37 ad37 q37 sim37 o37 kc37 ag37 hq37 g37
  have f38 : ad37 14 = (ad 14) := ((ag37.1 14 (by omega)).trans f32)
  have f39 : ad37 2 = (ad 2) := ((ag37.1 2 (by omega)).trans f33)
  have agx37 := Ag.trans agx31 ag37 (by omega) (Nat.le_refl _)
  have simx37 := KSim.trans simx31 sim37
  have hz40 : Zn 26 (iw_Pr_init_7 w) := Zn_le (m := 26) hz36 (by omega)
  have hr40 : Rn TA 26 (iw_Pr_init_7 w) := Rn_le (m := 26) hr36 (by omega)
  refine J_dup o37.1 dX7_init_65 rfl ?_
  refine J_init (n := 26) (n' := 29) o37 TnA g37 kc37 dX7_init_66 lkX7_11 ml_Bo_init mw203 rfl ⟨Nat.le_of_ble_eq_true rfl, Nat.le_of_ble_eq_true rfl⟩ (b1 := q37) (vs' := []) (c_Bo_init (n := 26) kA_26 g37.2.1 hz40 hr40) (by rw [hq37]) rfl (by omega) rfl (c1s_a (c1s_i (c1s_r c1s_0 (Nat.le_of_ble_eq_true rfl)) (Nat.le_of_ble_eq_true rfl)) (Nat.le_of_ble_eq_true rfl)) rfl rfl ⟨Nat.le_of_ble_eq_true rfl, Nat.le_of_ble_eq_true rfl⟩ ?_
  intro K41 ad41 sim41 o41 kc41 ag41 g41
  have f42 : ad41 14 = (ad 14) := ((ag41.1 14 (by omega)).trans f38)
  have f43 : ad41 2 = (ad 2) := ((ag41.1 2 (by omega)).trans f39)
  have f44 : ad41 26 = q37 := ((ag41.1 26 (by omega)).trans hq37)
  have agx41 := Ag.trans agx37 ag41 (by omega) (Nat.le_refl _)
  have simx41 := KSim.trans simx37 sim41
  refine J_fold (w' := (iw_Pr_init_8 w)) rfl ?_
  have hz45 : Zn 29 (iw_Pr_init_8 w) := z_Bo_init (n := 26) hz40
  have hr45 : Rn TA 29 (iw_Pr_init_8 w) := rn_Bo_init (n := 26) hr40
  refine J_t1 (rfa (S := S) f44 (by omega)) ?_
  refine J_t3 (rf_ag (S := S) (Ag.trans ag37 ag41 (by omega) (Nat.le_refl _)) (by omega)) ?_
  refine J_aast0 o41.1 g41 dX7_init_69 (tr_kd kA_19 (by omega)) rfl rl1 zA_19 ⟨by decide, by decide⟩ (tr_kd kA_26 (by omega)) rfl ⟨by decide, by decide⟩ (by have := lt_A kA_26 (by decide); omega) ?_
  refine J_fold (w' := (iw_Pr_init_9 w)) rfl ?_
  have hz46 : Zn 29 (iw_Pr_init_9 w) := Zn_up (c := 19) (k := 1) (v := (26 : Nat)) hz45 (by omega)
  have hr46 : Rn TA 29 (iw_Pr_init_9 w) := Rn_up (c := 19) (k := 1) (v := (26 : Nat)) hr45 (by omega)
  refine J_iincC (y := 2) o41 dX7_init_70 rfl (by decide +kernel) ?_
  refine J_foldL (L' := [some (.ref (ad 14)), some (.ref (ad 2)), some (.int (ii 2))]) rfl ?_
  refine J_goto 48 o41.1 dX7_init_73 (by decide) ?_
  refine J_iload_n o41.1 dX7_init_48 rfl ?_
  refine J_aldA_n o41 dX7_init_49 rfl ?_
  refine J_t1 (rfa (S := S) f42 (by omega)) ?_
  refine J_getR o41.1 g41 dX7_init_50 flX7_18 (tr_kd kA_14 (by omega)) rfl ?_
  refine J_t1 (congrArg (rf (sad S ad41).ad) ((congrArg Int.toNat (iv_Pr_init_9_14_2 w)).trans (rfl : _ = 19))) ?_
  refine J_alen o41.1 g41 dX7_init_53 (tr_kd kA_19 (by omega)) ⟨by decide, by decide⟩ zA_19 ?_
  refine J_icmp_ge 76 o41.1 dX7_init_54 (by decide) rl2 rl12 (fun c => absurd c (by decide)) (fun _ => ?_)
  refine J_aldA_n o41 dX7_init_57 rfl ?_
  refine J_t1 (rfa (S := S) f42 (by omega)) ?_
  refine J_getR o41.1 g41 dX7_init_58 flX7_18 (tr_kd kA_14 (by omega)) rfl ?_
  refine J_t1 (congrArg (rf (sad S ad41).ad) ((congrArg Int.toNat (iv_Pr_init_9_14_2 w)).trans (rfl : _ = 19))) ?_
  refine J_iload_n o41.1 dX7_init_61 rfl ?_
  refine J_new (κ := 1) (n := 29) o41 TnA g41 kc41 dX7_init_62 mw200 mw201 mw116 rfl inWX0 tyX0_ok kA_30 ⟨by decide, by decide⟩ dfX0 hz46 hr46 rfl rfl ⟨Nat.le_of_ble_eq_true rfl, Nat.le_of_ble_eq_true rfl⟩ ?_
  intro K47 ad47 q47 sim47 o47 kc47 ag47 hq47 g47
  have f48 : ad47 14 = (ad 14) := ((ag47.1 14 (by omega)).trans f42)
  have f49 : ad47 2 = (ad 2) := ((ag47.1 2 (by omega)).trans f43)
  have agx47 := Ag.trans agx41 ag47 (by omega) (Nat.le_refl _)
  have simx47 := KSim.trans simx41 sim47
  have hz50 : Zn 30 (iw_Pr_init_9 w) := Zn_le (m := 30) hz46 (by omega)
  have hr50 : Rn TA 30 (iw_Pr_init_9 w) := Rn_le (m := 30) hr46 (by omega)
  refine J_dup o47.1 dX7_init_65 rfl ?_
  refine J_init (n := 30) (n' := 33) o47 TnA g47 kc47 dX7_init_66 lkX7_11 ml_Bo_init mw203 rfl ⟨Nat.le_of_ble_eq_true rfl, Nat.le_of_ble_eq_true rfl⟩ (b1 := q47) (vs' := []) (c_Bo_init (n := 30) kA_30 g47.2.1 hz50 hr50) (by rw [hq47]) rfl (by omega) rfl (c1s_a (c1s_i (c1s_r c1s_0 (Nat.le_of_ble_eq_true rfl)) (Nat.le_of_ble_eq_true rfl)) (Nat.le_of_ble_eq_true rfl)) rfl rfl ⟨Nat.le_of_ble_eq_true rfl, Nat.le_of_ble_eq_true rfl⟩ ?_
  intro K51 ad51 sim51 o51 kc51 ag51 g51
  have f52 : ad51 14 = (ad 14) := ((ag51.1 14 (by omega)).trans f48)
  have f53 : ad51 2 = (ad 2) := ((ag51.1 2 (by omega)).trans f49)
  have f54 : ad51 30 = q47 := ((ag51.1 30 (by omega)).trans hq47)
  have agx51 := Ag.trans agx47 ag51 (by omega) (Nat.le_refl _)
  have simx51 := KSim.trans simx47 sim51
  refine J_fold (w' := (iw_Pr_init_10 w)) rfl ?_
  have hz55 : Zn 33 (iw_Pr_init_10 w) := z_Bo_init (n := 30) hz50
  have hr55 : Rn TA 33 (iw_Pr_init_10 w) := rn_Bo_init (n := 30) hr50
  refine J_t1 (rfa (S := S) f54 (by omega)) ?_
  refine J_t3 (rf_ag (S := S) (Ag.trans ag47 ag51 (by omega) (Nat.le_refl _)) (by omega)) ?_
  refine J_aast0 o51.1 g51 dX7_init_69 (tr_kd kA_19 (by omega)) rfl rl2 zA_19 ⟨by decide, by decide⟩ (tr_kd kA_30 (by omega)) rfl ⟨by decide, by decide⟩ (by have := lt_A kA_30 (by decide); omega) ?_
  refine J_fold (w' := (iw_Pr_init_11 w)) rfl ?_
  have hz56 : Zn 33 (iw_Pr_init_11 w) := Zn_up (c := 19) (k := 2) (v := (30 : Nat)) hz55 (by omega)
  have hr56 : Rn TA 33 (iw_Pr_init_11 w) := Rn_up (c := 19) (k := 2) (v := (30 : Nat)) hr55 (by omega)
  refine J_iincC (y := 3) o51 dX7_init_70 rfl (by decide +kernel) ?_
  refine J_foldL (L' := [some (.ref (ad 14)), some (.ref (ad 2)), some (.int (ii 3))]) rfl ?_
  refine J_goto 48 o51.1 dX7_init_73 (by decide) ?_
  refine J_iload_n o51.1 dX7_init_48 rfl ?_
  refine J_aldA_n o51 dX7_init_49 rfl ?_
  refine J_t1 (rfa (S := S) f52 (by omega)) ?_
  refine J_getR o51.1 g51 dX7_init_50 flX7_18 (tr_kd kA_14 (by omega)) rfl ?_
  refine J_t1 (congrArg (rf (sad S ad51).ad) ((congrArg Int.toNat (iv_Pr_init_11_14_2 w)).trans (rfl : _ = 19))) ?_
  refine J_alen o51.1 g51 dX7_init_53 (tr_kd kA_19 (by omega)) ⟨by decide, by decide⟩ zA_19 ?_
  refine J_icmp_ge 76 o51.1 dX7_init_54 (by decide) rl3 rl12 (fun c => absurd c (by decide)) (fun _ => ?_)
  refine J_aldA_n o51 dX7_init_57 rfl ?_
  refine J_t1 (rfa (S := S) f52 (by omega)) ?_
  refine J_getR o51.1 g51 dX7_init_58 flX7_18 (tr_kd kA_14 (by omega)) rfl ?_
  refine J_t1 (congrArg (rf (sad S ad51).ad) ((congrArg Int.toNat (iv_Pr_init_11_14_2 w)).trans (rfl : _ = 19))) ?_
  refine J_iload_n o51.1 dX7_init_61 rfl ?_
  refine J_new (κ := 1) (n := 33) o51 TnA g51 kc51 dX7_init_62 mw200 mw201 mw116 rfl inWX0 tyX0_ok kA_34 ⟨by decide, by decide⟩ dfX0 hz56 hr56 rfl rfl ⟨Nat.le_of_ble_eq_true rfl, Nat.le_of_ble_eq_true rfl⟩ ?_
  intro K57 ad57 q57 sim57 o57 kc57 ag57 hq57 g57
  have f58 : ad57 14 = (ad 14) := ((ag57.1 14 (by omega)).trans f52)
  have f59 : ad57 2 = (ad 2) := ((ag57.1 2 (by omega)).trans f53)
  have agx57 := Ag.trans agx51 ag57 (by omega) (Nat.le_refl _)
  have simx57 := KSim.trans simx51 sim57
  have hz60 : Zn 34 (iw_Pr_init_11 w) := Zn_le (m := 34) hz56 (by omega)
  have hr60 : Rn TA 34 (iw_Pr_init_11 w) := Rn_le (m := 34) hr56 (by omega)
  refine J_dup o57.1 dX7_init_65 rfl ?_
  refine J_init (n := 34) (n' := 37) o57 TnA g57 kc57 dX7_init_66 lkX7_11 ml_Bo_init mw203 rfl ⟨Nat.le_of_ble_eq_true rfl, Nat.le_of_ble_eq_true rfl⟩ (b1 := q57) (vs' := []) (c_Bo_init (n := 34) kA_34 g57.2.1 hz60 hr60) (by rw [hq57]) rfl (by omega) rfl (c1s_a (c1s_i (c1s_r c1s_0 (Nat.le_of_ble_eq_true rfl)) (Nat.le_of_ble_eq_true rfl)) (Nat.le_of_ble_eq_true rfl)) rfl rfl ⟨Nat.le_of_ble_eq_true rfl, Nat.le_of_ble_eq_true rfl⟩ ?_
  intro K61 ad61 sim61 o61 kc61 ag61 g61
  have f62 : ad61 14 = (ad 14) := ((ag61.1 14 (by omega)).trans f58)
  have f63 : ad61 2 = (ad 2) := ((ag61.1 2 (by omega)).trans f59)
  have f64 : ad61 34 = q57 := ((ag61.1 34 (by omega)).trans hq57)
  have agx61 := Ag.trans agx57 ag61 (by omega) (Nat.le_refl _)
  have simx61 := KSim.trans simx57 sim61
  refine J_fold (w' := (iw_Pr_init_12 w)) rfl ?_
  have hz65 : Zn 37 (iw_Pr_init_12 w) := z_Bo_init (n := 34) hz60
  have hr65 : Rn TA 37 (iw_Pr_init_12 w) := rn_Bo_init (n := 34) hr60
  refine J_t1 (rfa (S := S) f64 (by omega)) ?_
  refine J_t3 (rf_ag (S := S) (Ag.trans ag57 ag61 (by omega) (Nat.le_refl _)) (by omega)) ?_
  refine J_aast0 o61.1 g61 dX7_init_69 (tr_kd kA_19 (by omega)) rfl rl3 zA_19 ⟨by decide, by decide⟩ (tr_kd kA_34 (by omega)) rfl ⟨by decide, by decide⟩ (by have := lt_A kA_34 (by decide); omega) ?_
  refine J_fold (w' := (iw_Pr_init_13 w)) rfl ?_
  have hz66 : Zn 37 (iw_Pr_init_13 w) := Zn_up (c := 19) (k := 3) (v := (34 : Nat)) hz65 (by omega)
  have hr66 : Rn TA 37 (iw_Pr_init_13 w) := Rn_up (c := 19) (k := 3) (v := (34 : Nat)) hr65 (by omega)
  refine J_iincC (y := 4) o61 dX7_init_70 rfl (by decide +kernel) ?_
  refine J_foldL (L' := [some (.ref (ad 14)), some (.ref (ad 2)), some (.int (ii 4))]) rfl ?_
  refine J_goto 48 o61.1 dX7_init_73 (by decide) ?_
  refine J_iload_n o61.1 dX7_init_48 rfl ?_
  refine J_aldA_n o61 dX7_init_49 rfl ?_
  refine J_t1 (rfa (S := S) f62 (by omega)) ?_
  refine J_getR o61.1 g61 dX7_init_50 flX7_18 (tr_kd kA_14 (by omega)) rfl ?_
  refine J_t1 (congrArg (rf (sad S ad61).ad) ((congrArg Int.toNat (iv_Pr_init_13_14_2 w)).trans (rfl : _ = 19))) ?_
  refine J_alen o61.1 g61 dX7_init_53 (tr_kd kA_19 (by omega)) ⟨by decide, by decide⟩ zA_19 ?_
  refine J_icmp_ge 76 o61.1 dX7_init_54 (by decide) rl4 rl12 (fun c => absurd c (by decide)) (fun _ => ?_)
  refine J_aldA_n o61 dX7_init_57 rfl ?_
  refine J_t1 (rfa (S := S) f62 (by omega)) ?_
  refine J_getR o61.1 g61 dX7_init_58 flX7_18 (tr_kd kA_14 (by omega)) rfl ?_
  refine J_t1 (congrArg (rf (sad S ad61).ad) ((congrArg Int.toNat (iv_Pr_init_13_14_2 w)).trans (rfl : _ = 19))) ?_
  refine J_iload_n o61.1 dX7_init_61 rfl ?_
  refine J_new (κ := 1) (n := 37) o61 TnA g61 kc61 dX7_init_62 mw200 mw201 mw116 rfl inWX0 tyX0_ok kA_38 ⟨by decide, by decide⟩ dfX0 hz66 hr66 rfl rfl ⟨Nat.le_of_ble_eq_true rfl, Nat.le_of_ble_eq_true rfl⟩ ?_
  intro K67 ad67 q67 sim67 o67 kc67 ag67 hq67 g67
  have f68 : ad67 14 = (ad 14) := ((ag67.1 14 (by omega)).trans f62)
  have f69 : ad67 2 = (ad 2) := ((ag67.1 2 (by omega)).trans f63)
  have agx67 := Ag.trans agx61 ag67 (by omega) (Nat.le_refl _)
  have simx67 := KSim.trans simx61 sim67
  have hz70 : Zn 38 (iw_Pr_init_13 w) := Zn_le (m := 38) hz66 (by omega)
  have hr70 : Rn TA 38 (iw_Pr_init_13 w) := Rn_le (m := 38) hr66 (by omega)
  refine J_dup o67.1 dX7_init_65 rfl ?_
  refine J_init (n := 38) (n' := 41) o67 TnA g67 kc67 dX7_init_66 lkX7_11 ml_Bo_init mw203 rfl ⟨Nat.le_of_ble_eq_true rfl, Nat.le_of_ble_eq_true rfl⟩ (b1 := q67) (vs' := []) (c_Bo_init (n := 38) kA_38 g67.2.1 hz70 hr70) (by rw [hq67]) rfl (by omega) rfl (c1s_a (c1s_i (c1s_r c1s_0 (Nat.le_of_ble_eq_true rfl)) (Nat.le_of_ble_eq_true rfl)) (Nat.le_of_ble_eq_true rfl)) rfl rfl ⟨Nat.le_of_ble_eq_true rfl, Nat.le_of_ble_eq_true rfl⟩ ?_
  intro K71 ad71 sim71 o71 kc71 ag71 g71
  have f72 : ad71 14 = (ad 14) := ((ag71.1 14 (by omega)).trans f68)
  have f73 : ad71 2 = (ad 2) := ((ag71.1 2 (by omega)).trans f69)
  have f74 : ad71 38 = q67 := ((ag71.1 38 (by omega)).trans hq67)
  have agx71 := Ag.trans agx67 ag71 (by omega) (Nat.le_refl _)
  have simx71 := KSim.trans simx67 sim71
  refine J_fold (w' := (iw_Pr_init_14 w)) rfl ?_
  have hz75 : Zn 41 (iw_Pr_init_14 w) := z_Bo_init (n := 38) hz70
  have hr75 : Rn TA 41 (iw_Pr_init_14 w) := rn_Bo_init (n := 38) hr70
  refine J_t1 (rfa (S := S) f74 (by omega)) ?_
  refine J_t3 (rf_ag (S := S) (Ag.trans ag67 ag71 (by omega) (Nat.le_refl _)) (by omega)) ?_
  refine J_aast0 o71.1 g71 dX7_init_69 (tr_kd kA_19 (by omega)) rfl rl4 zA_19 ⟨by decide, by decide⟩ (tr_kd kA_38 (by omega)) rfl ⟨by decide, by decide⟩ (by have := lt_A kA_38 (by decide); omega) ?_
  refine J_fold (w' := (iw_Pr_init_15 w)) rfl ?_
  have hz76 : Zn 41 (iw_Pr_init_15 w) := Zn_up (c := 19) (k := 4) (v := (38 : Nat)) hz75 (by omega)
  have hr76 : Rn TA 41 (iw_Pr_init_15 w) := Rn_up (c := 19) (k := 4) (v := (38 : Nat)) hr75 (by omega)
  refine J_iincC (y := 5) o71 dX7_init_70 rfl (by decide +kernel) ?_
  refine J_foldL (L' := [some (.ref (ad 14)), some (.ref (ad 2)), some (.int (ii 5))]) rfl ?_
  refine J_goto 48 o71.1 dX7_init_73 (by decide) ?_
  refine J_iload_n o71.1 dX7_init_48 rfl ?_
  refine J_aldA_n o71 dX7_init_49 rfl ?_
  refine J_t1 (rfa (S := S) f72 (by omega)) ?_
  refine J_getR o71.1 g71 dX7_init_50 flX7_18 (tr_kd kA_14 (by omega)) rfl ?_
  refine J_t1 (congrArg (rf (sad S ad71).ad) ((congrArg Int.toNat (iv_Pr_init_15_14_2 w)).trans (rfl : _ = 19))) ?_
  refine J_alen o71.1 g71 dX7_init_53 (tr_kd kA_19 (by omega)) ⟨by decide, by decide⟩ zA_19 ?_
  refine J_icmp_ge 76 o71.1 dX7_init_54 (by decide) rl5 rl12 (fun c => absurd c (by decide)) (fun _ => ?_)
  refine J_aldA_n o71 dX7_init_57 rfl ?_
  refine J_t1 (rfa (S := S) f72 (by omega)) ?_
  refine J_getR o71.1 g71 dX7_init_58 flX7_18 (tr_kd kA_14 (by omega)) rfl ?_
  refine J_t1 (congrArg (rf (sad S ad71).ad) ((congrArg Int.toNat (iv_Pr_init_15_14_2 w)).trans (rfl : _ = 19))) ?_
  refine J_iload_n o71.1 dX7_init_61 rfl ?_
  refine J_new (κ := 1) (n := 41) o71 TnA g71 kc71 dX7_init_62 mw200 mw201 mw116 rfl inWX0 tyX0_ok kA_42 ⟨by decide, by decide⟩ dfX0 hz76 hr76 rfl rfl ⟨Nat.le_of_ble_eq_true rfl, Nat.le_of_ble_eq_true rfl⟩ ?_
  intro K77 ad77 q77 sim77 o77 kc77 ag77 hq77 g77
  have f78 : ad77 14 = (ad 14) := ((ag77.1 14 (by omega)).trans f72)
  have f79 : ad77 2 = (ad 2) := ((ag77.1 2 (by omega)).trans f73)
  have agx77 := Ag.trans agx71 ag77 (by omega) (Nat.le_refl _)
  have simx77 := KSim.trans simx71 sim77
  have hz80 : Zn 42 (iw_Pr_init_15 w) := Zn_le (m := 42) hz76 (by omega)
  have hr80 : Rn TA 42 (iw_Pr_init_15 w) := Rn_le (m := 42) hr76 (by omega)
  refine J_dup o77.1 dX7_init_65 rfl ?_
  refine J_init (n := 42) (n' := 45) o77 TnA g77 kc77 dX7_init_66 lkX7_11 ml_Bo_init mw203 rfl ⟨Nat.le_of_ble_eq_true rfl, Nat.le_of_ble_eq_true rfl⟩ (b1 := q77) (vs' := []) (c_Bo_init (n := 42) kA_42 g77.2.1 hz80 hr80) (by rw [hq77]) rfl (by omega) rfl (c1s_a (c1s_i (c1s_r c1s_0 (Nat.le_of_ble_eq_true rfl)) (Nat.le_of_ble_eq_true rfl)) (Nat.le_of_ble_eq_true rfl)) rfl rfl ⟨Nat.le_of_ble_eq_true rfl, Nat.le_of_ble_eq_true rfl⟩ ?_
  intro K81 ad81 sim81 o81 kc81 ag81 g81
  have f82 : ad81 14 = (ad 14) := ((ag81.1 14 (by omega)).trans f78)
  have f83 : ad81 2 = (ad 2) := ((ag81.1 2 (by omega)).trans f79)
  have f84 : ad81 42 = q77 := ((ag81.1 42 (by omega)).trans hq77)
  have agx81 := Ag.trans agx77 ag81 (by omega) (Nat.le_refl _)
  have simx81 := KSim.trans simx77 sim81
  refine J_fold (w' := (iw_Pr_init_16 w)) rfl ?_
  have hz85 : Zn 45 (iw_Pr_init_16 w) := z_Bo_init (n := 42) hz80
  have hr85 : Rn TA 45 (iw_Pr_init_16 w) := rn_Bo_init (n := 42) hr80
  refine J_t1 (rfa (S := S) f84 (by omega)) ?_
  refine J_t3 (rf_ag (S := S) (Ag.trans ag77 ag81 (by omega) (Nat.le_refl _)) (by omega)) ?_
  refine J_aast0 o81.1 g81 dX7_init_69 (tr_kd kA_19 (by omega)) rfl rl5 zA_19 ⟨by decide, by decide⟩ (tr_kd kA_42 (by omega)) rfl ⟨by decide, by decide⟩ (by have := lt_A kA_42 (by decide); omega) ?_
  refine J_fold (w' := (iw_Pr_init_17 w)) rfl ?_
  have hz86 : Zn 45 (iw_Pr_init_17 w) := Zn_up (c := 19) (k := 5) (v := (42 : Nat)) hz85 (by omega)
  have hr86 : Rn TA 45 (iw_Pr_init_17 w) := Rn_up (c := 19) (k := 5) (v := (42 : Nat)) hr85 (by omega)
  refine J_iincC (y := 6) o81 dX7_init_70 rfl (by decide +kernel) ?_
  refine J_foldL (L' := [some (.ref (ad 14)), some (.ref (ad 2)), some (.int (ii 6))]) rfl ?_
  refine J_goto 48 o81.1 dX7_init_73 (by decide) ?_
  refine J_iload_n o81.1 dX7_init_48 rfl ?_
  refine J_aldA_n o81 dX7_init_49 rfl ?_
  refine J_t1 (rfa (S := S) f82 (by omega)) ?_
  refine J_getR o81.1 g81 dX7_init_50 flX7_18 (tr_kd kA_14 (by omega)) rfl ?_
  refine J_t1 (congrArg (rf (sad S ad81).ad) ((congrArg Int.toNat (iv_Pr_init_17_14_2 w)).trans (rfl : _ = 19))) ?_
  refine J_alen o81.1 g81 dX7_init_53 (tr_kd kA_19 (by omega)) ⟨by decide, by decide⟩ zA_19 ?_
  refine J_icmp_ge 76 o81.1 dX7_init_54 (by decide) rl6 rl12 (fun c => absurd c (by decide)) (fun _ => ?_)
  refine J_aldA_n o81 dX7_init_57 rfl ?_
  refine J_t1 (rfa (S := S) f82 (by omega)) ?_
  refine J_getR o81.1 g81 dX7_init_58 flX7_18 (tr_kd kA_14 (by omega)) rfl ?_
  refine J_t1 (congrArg (rf (sad S ad81).ad) ((congrArg Int.toNat (iv_Pr_init_17_14_2 w)).trans (rfl : _ = 19))) ?_
  refine J_iload_n o81.1 dX7_init_61 rfl ?_
  refine J_new (κ := 1) (n := 45) o81 TnA g81 kc81 dX7_init_62 mw200 mw201 mw116 rfl inWX0 tyX0_ok kA_46 ⟨by decide, by decide⟩ dfX0 hz86 hr86 rfl rfl ⟨Nat.le_of_ble_eq_true rfl, Nat.le_of_ble_eq_true rfl⟩ ?_
  intro K87 ad87 q87 sim87 o87 kc87 ag87 hq87 g87
  have f88 : ad87 14 = (ad 14) := ((ag87.1 14 (by omega)).trans f82)
  have f89 : ad87 2 = (ad 2) := ((ag87.1 2 (by omega)).trans f83)
  have agx87 := Ag.trans agx81 ag87 (by omega) (Nat.le_refl _)
  have simx87 := KSim.trans simx81 sim87
  have hz90 : Zn 46 (iw_Pr_init_17 w) := Zn_le (m := 46) hz86 (by omega)
  have hr90 : Rn TA 46 (iw_Pr_init_17 w) := Rn_le (m := 46) hr86 (by omega)
  refine J_dup o87.1 dX7_init_65 rfl ?_
  refine J_init (n := 46) (n' := 49) o87 TnA g87 kc87 dX7_init_66 lkX7_11 ml_Bo_init mw203 rfl ⟨Nat.le_of_ble_eq_true rfl, Nat.le_of_ble_eq_true rfl⟩ (b1 := q87) (vs' := []) (c_Bo_init (n := 46) kA_46 g87.2.1 hz90 hr90) (by rw [hq87]) rfl (by omega) rfl (c1s_a (c1s_i (c1s_r c1s_0 (Nat.le_of_ble_eq_true rfl)) (Nat.le_of_ble_eq_true rfl)) (Nat.le_of_ble_eq_true rfl)) rfl rfl ⟨Nat.le_of_ble_eq_true rfl, Nat.le_of_ble_eq_true rfl⟩ ?_
  intro K91 ad91 sim91 o91 kc91 ag91 g91
  have f92 : ad91 14 = (ad 14) := ((ag91.1 14 (by omega)).trans f88)
  have f93 : ad91 2 = (ad 2) := ((ag91.1 2 (by omega)).trans f89)
  have f94 : ad91 46 = q87 := ((ag91.1 46 (by omega)).trans hq87)
  have agx91 := Ag.trans agx87 ag91 (by omega) (Nat.le_refl _)
  have simx91 := KSim.trans simx87 sim91
  refine J_fold (w' := (iw_Pr_init_18 w)) rfl ?_
  have hz95 : Zn 49 (iw_Pr_init_18 w) := z_Bo_init (n := 46) hz90
  have hr95 : Rn TA 49 (iw_Pr_init_18 w) := rn_Bo_init (n := 46) hr90
  refine J_t1 (rfa (S := S) f94 (by omega)) ?_
  refine J_t3 (rf_ag (S := S) (Ag.trans ag87 ag91 (by omega) (Nat.le_refl _)) (by omega)) ?_
  refine J_aast0 o91.1 g91 dX7_init_69 (tr_kd kA_19 (by omega)) rfl rl6 zA_19 ⟨by decide, by decide⟩ (tr_kd kA_46 (by omega)) rfl ⟨by decide, by decide⟩ (by have := lt_A kA_46 (by decide); omega) ?_
  refine J_fold (w' := (iw_Pr_init_19 w)) rfl ?_
  have hz96 : Zn 49 (iw_Pr_init_19 w) := Zn_up (c := 19) (k := 6) (v := (46 : Nat)) hz95 (by omega)
  have hr96 : Rn TA 49 (iw_Pr_init_19 w) := Rn_up (c := 19) (k := 6) (v := (46 : Nat)) hr95 (by omega)
  refine J_iincC (y := 7) o91 dX7_init_70 rfl (by decide +kernel) ?_
  refine J_foldL (L' := [some (.ref (ad 14)), some (.ref (ad 2)), some (.int (ii 7))]) rfl ?_
  refine J_goto 48 o91.1 dX7_init_73 (by decide) ?_
  refine J_iload_n o91.1 dX7_init_48 rfl ?_
  refine J_aldA_n o91 dX7_init_49 rfl ?_
  refine J_t1 (rfa (S := S) f92 (by omega)) ?_
  refine J_getR o91.1 g91 dX7_init_50 flX7_18 (tr_kd kA_14 (by omega)) rfl ?_
  refine J_t1 (congrArg (rf (sad S ad91).ad) ((congrArg Int.toNat (iv_Pr_init_19_14_2 w)).trans (rfl : _ = 19))) ?_
  refine J_alen o91.1 g91 dX7_init_53 (tr_kd kA_19 (by omega)) ⟨by decide, by decide⟩ zA_19 ?_
  refine J_icmp_ge 76 o91.1 dX7_init_54 (by decide) rl7 rl12 (fun c => absurd c (by decide)) (fun _ => ?_)
  refine J_aldA_n o91 dX7_init_57 rfl ?_
  refine J_t1 (rfa (S := S) f92 (by omega)) ?_
  refine J_getR o91.1 g91 dX7_init_58 flX7_18 (tr_kd kA_14 (by omega)) rfl ?_
  refine J_t1 (congrArg (rf (sad S ad91).ad) ((congrArg Int.toNat (iv_Pr_init_19_14_2 w)).trans (rfl : _ = 19))) ?_
  refine J_iload_n o91.1 dX7_init_61 rfl ?_
  refine J_new (κ := 1) (n := 49) o91 TnA g91 kc91 dX7_init_62 mw200 mw201 mw116 rfl inWX0 tyX0_ok kA_50 ⟨by decide, by decide⟩ dfX0 hz96 hr96 rfl rfl ⟨Nat.le_of_ble_eq_true rfl, Nat.le_of_ble_eq_true rfl⟩ ?_
  intro K97 ad97 q97 sim97 o97 kc97 ag97 hq97 g97
  have f98 : ad97 14 = (ad 14) := ((ag97.1 14 (by omega)).trans f92)
  have f99 : ad97 2 = (ad 2) := ((ag97.1 2 (by omega)).trans f93)
  have agx97 := Ag.trans agx91 ag97 (by omega) (Nat.le_refl _)
  have simx97 := KSim.trans simx91 sim97
  have hz100 : Zn 50 (iw_Pr_init_19 w) := Zn_le (m := 50) hz96 (by omega)
  have hr100 : Rn TA 50 (iw_Pr_init_19 w) := Rn_le (m := 50) hr96 (by omega)
  refine J_dup o97.1 dX7_init_65 rfl ?_
  refine J_init (n := 50) (n' := 53) o97 TnA g97 kc97 dX7_init_66 lkX7_11 ml_Bo_init mw203 rfl ⟨Nat.le_of_ble_eq_true rfl, Nat.le_of_ble_eq_true rfl⟩ (b1 := q97) (vs' := []) (c_Bo_init (n := 50) kA_50 g97.2.1 hz100 hr100) (by rw [hq97]) rfl (by omega) rfl (c1s_a (c1s_i (c1s_r c1s_0 (Nat.le_of_ble_eq_true rfl)) (Nat.le_of_ble_eq_true rfl)) (Nat.le_of_ble_eq_true rfl)) rfl rfl ⟨Nat.le_of_ble_eq_true rfl, Nat.le_of_ble_eq_true rfl⟩ ?_
  intro K101 ad101 sim101 o101 kc101 ag101 g101
  have f102 : ad101 14 = (ad 14) := ((ag101.1 14 (by omega)).trans f98)
  have f103 : ad101 2 = (ad 2) := ((ag101.1 2 (by omega)).trans f99)
  have f104 : ad101 50 = q97 := ((ag101.1 50 (by omega)).trans hq97)
  have agx101 := Ag.trans agx97 ag101 (by omega) (Nat.le_refl _)
  have simx101 := KSim.trans simx97 sim101
  refine J_fold (w' := (iw_Pr_init_20 w)) rfl ?_
  have hz105 : Zn 53 (iw_Pr_init_20 w) := z_Bo_init (n := 50) hz100
  have hr105 : Rn TA 53 (iw_Pr_init_20 w) := rn_Bo_init (n := 50) hr100
  refine J_t1 (rfa (S := S) f104 (by omega)) ?_
  refine J_t3 (rf_ag (S := S) (Ag.trans ag97 ag101 (by omega) (Nat.le_refl _)) (by omega)) ?_
  refine J_aast0 o101.1 g101 dX7_init_69 (tr_kd kA_19 (by omega)) rfl rl7 zA_19 ⟨by decide, by decide⟩ (tr_kd kA_50 (by omega)) rfl ⟨by decide, by decide⟩ (by have := lt_A kA_50 (by decide); omega) ?_
  refine J_fold (w' := (iw_Pr_init_21 w)) rfl ?_
  have hz106 : Zn 53 (iw_Pr_init_21 w) := Zn_up (c := 19) (k := 7) (v := (50 : Nat)) hz105 (by omega)
  have hr106 : Rn TA 53 (iw_Pr_init_21 w) := Rn_up (c := 19) (k := 7) (v := (50 : Nat)) hr105 (by omega)
  refine J_iincC (y := 8) o101 dX7_init_70 rfl (by decide +kernel) ?_
  refine J_foldL (L' := [some (.ref (ad 14)), some (.ref (ad 2)), some (.int (ii 8))]) rfl ?_
  refine J_goto 48 o101.1 dX7_init_73 (by decide) ?_
  refine J_iload_n o101.1 dX7_init_48 rfl ?_
  refine J_aldA_n o101 dX7_init_49 rfl ?_
  refine J_t1 (rfa (S := S) f102 (by omega)) ?_
  refine J_getR o101.1 g101 dX7_init_50 flX7_18 (tr_kd kA_14 (by omega)) rfl ?_
  refine J_t1 (congrArg (rf (sad S ad101).ad) ((congrArg Int.toNat (iv_Pr_init_21_14_2 w)).trans (rfl : _ = 19))) ?_
  refine J_alen o101.1 g101 dX7_init_53 (tr_kd kA_19 (by omega)) ⟨by decide, by decide⟩ zA_19 ?_
  refine J_icmp_ge 76 o101.1 dX7_init_54 (by decide) rl8 rl12 (fun c => absurd c (by decide)) (fun _ => ?_)
  refine J_aldA_n o101 dX7_init_57 rfl ?_
  refine J_t1 (rfa (S := S) f102 (by omega)) ?_
  refine J_getR o101.1 g101 dX7_init_58 flX7_18 (tr_kd kA_14 (by omega)) rfl ?_
  refine J_t1 (congrArg (rf (sad S ad101).ad) ((congrArg Int.toNat (iv_Pr_init_21_14_2 w)).trans (rfl : _ = 19))) ?_
  refine J_iload_n o101.1 dX7_init_61 rfl ?_
  refine J_new (κ := 1) (n := 53) o101 TnA g101 kc101 dX7_init_62 mw200 mw201 mw116 rfl inWX0 tyX0_ok kA_54 ⟨by decide, by decide⟩ dfX0 hz106 hr106 rfl rfl ⟨Nat.le_of_ble_eq_true rfl, Nat.le_of_ble_eq_true rfl⟩ ?_
  intro K107 ad107 q107 sim107 o107 kc107 ag107 hq107 g107
  have f108 : ad107 14 = (ad 14) := ((ag107.1 14 (by omega)).trans f102)
  have f109 : ad107 2 = (ad 2) := ((ag107.1 2 (by omega)).trans f103)
  have agx107 := Ag.trans agx101 ag107 (by omega) (Nat.le_refl _)
  have simx107 := KSim.trans simx101 sim107
  have hz110 : Zn 54 (iw_Pr_init_21 w) := Zn_le (m := 54) hz106 (by omega)
  have hr110 : Rn TA 54 (iw_Pr_init_21 w) := Rn_le (m := 54) hr106 (by omega)
  refine J_dup o107.1 dX7_init_65 rfl ?_
  refine J_init (n := 54) (n' := 57) o107 TnA g107 kc107 dX7_init_66 lkX7_11 ml_Bo_init mw203 rfl ⟨Nat.le_of_ble_eq_true rfl, Nat.le_of_ble_eq_true rfl⟩ (b1 := q107) (vs' := []) (c_Bo_init (n := 54) kA_54 g107.2.1 hz110 hr110) (by rw [hq107]) rfl (by omega) rfl (c1s_a (c1s_i (c1s_r c1s_0 (Nat.le_of_ble_eq_true rfl)) (Nat.le_of_ble_eq_true rfl)) (Nat.le_of_ble_eq_true rfl)) rfl rfl ⟨Nat.le_of_ble_eq_true rfl, Nat.le_of_ble_eq_true rfl⟩ ?_
  intro K111 ad111 sim111 o111 kc111 ag111 g111
  have f112 : ad111 14 = (ad 14) := ((ag111.1 14 (by omega)).trans f108)
  have f113 : ad111 2 = (ad 2) := ((ag111.1 2 (by omega)).trans f109)
  have f114 : ad111 54 = q107 := ((ag111.1 54 (by omega)).trans hq107)
  have agx111 := Ag.trans agx107 ag111 (by omega) (Nat.le_refl _)
  have simx111 := KSim.trans simx107 sim111
  refine J_fold (w' := (iw_Pr_init_22 w)) rfl ?_
  have hz115 : Zn 57 (iw_Pr_init_22 w) := z_Bo_init (n := 54) hz110
  have hr115 : Rn TA 57 (iw_Pr_init_22 w) := rn_Bo_init (n := 54) hr110
  refine J_t1 (rfa (S := S) f114 (by omega)) ?_
  refine J_t3 (rf_ag (S := S) (Ag.trans ag107 ag111 (by omega) (Nat.le_refl _)) (by omega)) ?_
  refine J_aast0 o111.1 g111 dX7_init_69 (tr_kd kA_19 (by omega)) rfl rl8 zA_19 ⟨by decide, by decide⟩ (tr_kd kA_54 (by omega)) rfl ⟨by decide, by decide⟩ (by have := lt_A kA_54 (by decide); omega) ?_
  refine J_fold (w' := (iw_Pr_init_23 w)) rfl ?_
  have hz116 : Zn 57 (iw_Pr_init_23 w) := Zn_up (c := 19) (k := 8) (v := (54 : Nat)) hz115 (by omega)
  have hr116 : Rn TA 57 (iw_Pr_init_23 w) := Rn_up (c := 19) (k := 8) (v := (54 : Nat)) hr115 (by omega)
  refine J_iincC (y := 9) o111 dX7_init_70 rfl (by decide +kernel) ?_
  refine J_foldL (L' := [some (.ref (ad 14)), some (.ref (ad 2)), some (.int (ii 9))]) rfl ?_
  refine J_goto 48 o111.1 dX7_init_73 (by decide) ?_
  refine J_iload_n o111.1 dX7_init_48 rfl ?_
  refine J_aldA_n o111 dX7_init_49 rfl ?_
  refine J_t1 (rfa (S := S) f112 (by omega)) ?_
  refine J_getR o111.1 g111 dX7_init_50 flX7_18 (tr_kd kA_14 (by omega)) rfl ?_
  refine J_t1 (congrArg (rf (sad S ad111).ad) ((congrArg Int.toNat (iv_Pr_init_23_14_2 w)).trans (rfl : _ = 19))) ?_
  refine J_alen o111.1 g111 dX7_init_53 (tr_kd kA_19 (by omega)) ⟨by decide, by decide⟩ zA_19 ?_
  refine J_icmp_ge 76 o111.1 dX7_init_54 (by decide) rl9 rl12 (fun c => absurd c (by decide)) (fun _ => ?_)
  refine J_aldA_n o111 dX7_init_57 rfl ?_
  refine J_t1 (rfa (S := S) f112 (by omega)) ?_
  refine J_getR o111.1 g111 dX7_init_58 flX7_18 (tr_kd kA_14 (by omega)) rfl ?_
  refine J_t1 (congrArg (rf (sad S ad111).ad) ((congrArg Int.toNat (iv_Pr_init_23_14_2 w)).trans (rfl : _ = 19))) ?_
  refine J_iload_n o111.1 dX7_init_61 rfl ?_
  refine J_new (κ := 1) (n := 57) o111 TnA g111 kc111 dX7_init_62 mw200 mw201 mw116 rfl inWX0 tyX0_ok kA_58 ⟨by decide, by decide⟩ dfX0 hz116 hr116 rfl rfl ⟨Nat.le_of_ble_eq_true rfl, Nat.le_of_ble_eq_true rfl⟩ ?_
  intro K117 ad117 q117 sim117 o117 kc117 ag117 hq117 g117
  have f118 : ad117 14 = (ad 14) := ((ag117.1 14 (by omega)).trans f112)
  have f119 : ad117 2 = (ad 2) := ((ag117.1 2 (by omega)).trans f113)
  have agx117 := Ag.trans agx111 ag117 (by omega) (Nat.le_refl _)
  have simx117 := KSim.trans simx111 sim117
  have hz120 : Zn 58 (iw_Pr_init_23 w) := Zn_le (m := 58) hz116 (by omega)
  have hr120 : Rn TA 58 (iw_Pr_init_23 w) := Rn_le (m := 58) hr116 (by omega)
  refine J_dup o117.1 dX7_init_65 rfl ?_
  refine J_init (n := 58) (n' := 61) o117 TnA g117 kc117 dX7_init_66 lkX7_11 ml_Bo_init mw203 rfl ⟨Nat.le_of_ble_eq_true rfl, Nat.le_of_ble_eq_true rfl⟩ (b1 := q117) (vs' := []) (c_Bo_init (n := 58) kA_58 g117.2.1 hz120 hr120) (by rw [hq117]) rfl (by omega) rfl (c1s_a (c1s_i (c1s_r c1s_0 (Nat.le_of_ble_eq_true rfl)) (Nat.le_of_ble_eq_true rfl)) (Nat.le_of_ble_eq_true rfl)) rfl rfl ⟨Nat.le_of_ble_eq_true rfl, Nat.le_of_ble_eq_true rfl⟩ ?_
  intro K121 ad121 sim121 o121 kc121 ag121 g121
  have f122 : ad121 14 = (ad 14) := ((ag121.1 14 (by omega)).trans f118)
  have f123 : ad121 2 = (ad 2) := ((ag121.1 2 (by omega)).trans f119)
  have f124 : ad121 58 = q117 := ((ag121.1 58 (by omega)).trans hq117)
  have agx121 := Ag.trans agx117 ag121 (by omega) (Nat.le_refl _)
  have simx121 := KSim.trans simx117 sim121
  refine J_fold (w' := (iw_Pr_init_24 w)) rfl ?_
  have hz125 : Zn 61 (iw_Pr_init_24 w) := z_Bo_init (n := 58) hz120
  have hr125 : Rn TA 61 (iw_Pr_init_24 w) := rn_Bo_init (n := 58) hr120
  refine J_t1 (rfa (S := S) f124 (by omega)) ?_
  refine J_t3 (rf_ag (S := S) (Ag.trans ag117 ag121 (by omega) (Nat.le_refl _)) (by omega)) ?_
  refine J_aast0 o121.1 g121 dX7_init_69 (tr_kd kA_19 (by omega)) rfl rl9 zA_19 ⟨by decide, by decide⟩ (tr_kd kA_58 (by omega)) rfl ⟨by decide, by decide⟩ (by have := lt_A kA_58 (by decide); omega) ?_
  refine J_fold (w' := (iw_Pr_init_25 w)) rfl ?_
  have hz126 : Zn 61 (iw_Pr_init_25 w) := Zn_up (c := 19) (k := 9) (v := (58 : Nat)) hz125 (by omega)
  have hr126 : Rn TA 61 (iw_Pr_init_25 w) := Rn_up (c := 19) (k := 9) (v := (58 : Nat)) hr125 (by omega)
  refine J_iincC (y := 10) o121 dX7_init_70 rfl (by decide +kernel) ?_
  refine J_foldL (L' := [some (.ref (ad 14)), some (.ref (ad 2)), some (.int (ii 10))]) rfl ?_
  refine J_goto 48 o121.1 dX7_init_73 (by decide) ?_
  refine J_iload_n o121.1 dX7_init_48 rfl ?_
  refine J_aldA_n o121 dX7_init_49 rfl ?_
  refine J_t1 (rfa (S := S) f122 (by omega)) ?_
  refine J_getR o121.1 g121 dX7_init_50 flX7_18 (tr_kd kA_14 (by omega)) rfl ?_
  refine J_t1 (congrArg (rf (sad S ad121).ad) ((congrArg Int.toNat (iv_Pr_init_25_14_2 w)).trans (rfl : _ = 19))) ?_
  refine J_alen o121.1 g121 dX7_init_53 (tr_kd kA_19 (by omega)) ⟨by decide, by decide⟩ zA_19 ?_
  refine J_icmp_ge 76 o121.1 dX7_init_54 (by decide) rl10 rl12 (fun c => absurd c (by decide)) (fun _ => ?_)
  refine J_aldA_n o121 dX7_init_57 rfl ?_
  refine J_t1 (rfa (S := S) f122 (by omega)) ?_
  refine J_getR o121.1 g121 dX7_init_58 flX7_18 (tr_kd kA_14 (by omega)) rfl ?_
  refine J_t1 (congrArg (rf (sad S ad121).ad) ((congrArg Int.toNat (iv_Pr_init_25_14_2 w)).trans (rfl : _ = 19))) ?_
  refine J_iload_n o121.1 dX7_init_61 rfl ?_
  refine J_new (κ := 1) (n := 61) o121 TnA g121 kc121 dX7_init_62 mw200 mw201 mw116 rfl inWX0 tyX0_ok kA_62 ⟨by decide, by decide⟩ dfX0 hz126 hr126 rfl rfl ⟨Nat.le_of_ble_eq_true rfl, Nat.le_of_ble_eq_true rfl⟩ ?_
  intro K127 ad127 q127 sim127 o127 kc127 ag127 hq127 g127
  have f128 : ad127 14 = (ad 14) := ((ag127.1 14 (by omega)).trans f122)
  have f129 : ad127 2 = (ad 2) := ((ag127.1 2 (by omega)).trans f123)
  have agx127 := Ag.trans agx121 ag127 (by omega) (Nat.le_refl _)
  have simx127 := KSim.trans simx121 sim127
  have hz130 : Zn 62 (iw_Pr_init_25 w) := Zn_le (m := 62) hz126 (by omega)
  have hr130 : Rn TA 62 (iw_Pr_init_25 w) := Rn_le (m := 62) hr126 (by omega)
  refine J_dup o127.1 dX7_init_65 rfl ?_
  refine J_init (n := 62) (n' := 65) o127 TnA g127 kc127 dX7_init_66 lkX7_11 ml_Bo_init mw203 rfl ⟨Nat.le_of_ble_eq_true rfl, Nat.le_of_ble_eq_true rfl⟩ (b1 := q127) (vs' := []) (c_Bo_init (n := 62) kA_62 g127.2.1 hz130 hr130) (by rw [hq127]) rfl (by omega) rfl (c1s_a (c1s_i (c1s_r c1s_0 (Nat.le_of_ble_eq_true rfl)) (Nat.le_of_ble_eq_true rfl)) (Nat.le_of_ble_eq_true rfl)) rfl rfl ⟨Nat.le_of_ble_eq_true rfl, Nat.le_of_ble_eq_true rfl⟩ ?_
  intro K131 ad131 sim131 o131 kc131 ag131 g131
  have f132 : ad131 14 = (ad 14) := ((ag131.1 14 (by omega)).trans f128)
  have f133 : ad131 2 = (ad 2) := ((ag131.1 2 (by omega)).trans f129)
  have f134 : ad131 62 = q127 := ((ag131.1 62 (by omega)).trans hq127)
  have agx131 := Ag.trans agx127 ag131 (by omega) (Nat.le_refl _)
  have simx131 := KSim.trans simx127 sim131
  refine J_fold (w' := (iw_Pr_init_26 w)) rfl ?_
  have hz135 : Zn 65 (iw_Pr_init_26 w) := z_Bo_init (n := 62) hz130
  have hr135 : Rn TA 65 (iw_Pr_init_26 w) := rn_Bo_init (n := 62) hr130
  refine J_t1 (rfa (S := S) f134 (by omega)) ?_
  refine J_t3 (rf_ag (S := S) (Ag.trans ag127 ag131 (by omega) (Nat.le_refl _)) (by omega)) ?_
  refine J_aast0 o131.1 g131 dX7_init_69 (tr_kd kA_19 (by omega)) rfl rl10 zA_19 ⟨by decide, by decide⟩ (tr_kd kA_62 (by omega)) rfl ⟨by decide, by decide⟩ (by have := lt_A kA_62 (by decide); omega) ?_
  refine J_fold (w' := (iw_Pr_init_27 w)) rfl ?_
  have hz136 : Zn 65 (iw_Pr_init_27 w) := Zn_up (c := 19) (k := 10) (v := (62 : Nat)) hz135 (by omega)
  have hr136 : Rn TA 65 (iw_Pr_init_27 w) := Rn_up (c := 19) (k := 10) (v := (62 : Nat)) hr135 (by omega)
  refine J_iincC (y := 11) o131 dX7_init_70 rfl (by decide +kernel) ?_
  refine J_foldL (L' := [some (.ref (ad 14)), some (.ref (ad 2)), some (.int (ii 11))]) rfl ?_
  refine J_goto 48 o131.1 dX7_init_73 (by decide) ?_
  refine J_iload_n o131.1 dX7_init_48 rfl ?_
  refine J_aldA_n o131 dX7_init_49 rfl ?_
  refine J_t1 (rfa (S := S) f132 (by omega)) ?_
  refine J_getR o131.1 g131 dX7_init_50 flX7_18 (tr_kd kA_14 (by omega)) rfl ?_
  refine J_t1 (congrArg (rf (sad S ad131).ad) ((congrArg Int.toNat (iv_Pr_init_27_14_2 w)).trans (rfl : _ = 19))) ?_
  refine J_alen o131.1 g131 dX7_init_53 (tr_kd kA_19 (by omega)) ⟨by decide, by decide⟩ zA_19 ?_
  refine J_icmp_ge 76 o131.1 dX7_init_54 (by decide) rl11 rl12 (fun c => absurd c (by decide)) (fun _ => ?_)
  refine J_aldA_n o131 dX7_init_57 rfl ?_
  refine J_t1 (rfa (S := S) f132 (by omega)) ?_
  refine J_getR o131.1 g131 dX7_init_58 flX7_18 (tr_kd kA_14 (by omega)) rfl ?_
  refine J_t1 (congrArg (rf (sad S ad131).ad) ((congrArg Int.toNat (iv_Pr_init_27_14_2 w)).trans (rfl : _ = 19))) ?_
  refine J_iload_n o131.1 dX7_init_61 rfl ?_
  refine J_new (κ := 1) (n := 65) o131 TnA g131 kc131 dX7_init_62 mw200 mw201 mw116 rfl inWX0 tyX0_ok kA_66 ⟨by decide, by decide⟩ dfX0 hz136 hr136 rfl rfl ⟨Nat.le_of_ble_eq_true rfl, Nat.le_of_ble_eq_true rfl⟩ ?_
  intro K137 ad137 q137 sim137 o137 kc137 ag137 hq137 g137
  have f138 : ad137 14 = (ad 14) := ((ag137.1 14 (by omega)).trans f132)
  have f139 : ad137 2 = (ad 2) := ((ag137.1 2 (by omega)).trans f133)
  have agx137 := Ag.trans agx131 ag137 (by omega) (Nat.le_refl _)
  have simx137 := KSim.trans simx131 sim137
  have hz140 : Zn 66 (iw_Pr_init_27 w) := Zn_le (m := 66) hz136 (by omega)
  have hr140 : Rn TA 66 (iw_Pr_init_27 w) := Rn_le (m := 66) hr136 (by omega)
  refine J_dup o137.1 dX7_init_65 rfl ?_
  refine J_init (n := 66) (n' := 69) o137 TnA g137 kc137 dX7_init_66 lkX7_11 ml_Bo_init mw203 rfl ⟨Nat.le_of_ble_eq_true rfl, Nat.le_of_ble_eq_true rfl⟩ (b1 := q137) (vs' := []) (c_Bo_init (n := 66) kA_66 g137.2.1 hz140 hr140) (by rw [hq137]) rfl (by omega) rfl (c1s_a (c1s_i (c1s_r c1s_0 (Nat.le_of_ble_eq_true rfl)) (Nat.le_of_ble_eq_true rfl)) (Nat.le_of_ble_eq_true rfl)) rfl rfl ⟨Nat.le_of_ble_eq_true rfl, Nat.le_of_ble_eq_true rfl⟩ ?_
  intro K141 ad141 sim141 o141 kc141 ag141 g141
  have f142 : ad141 14 = (ad 14) := ((ag141.1 14 (by omega)).trans f138)
  have f143 : ad141 2 = (ad 2) := ((ag141.1 2 (by omega)).trans f139)
  have f144 : ad141 66 = q137 := ((ag141.1 66 (by omega)).trans hq137)
  have agx141 := Ag.trans agx137 ag141 (by omega) (Nat.le_refl _)
  have simx141 := KSim.trans simx137 sim141
  refine J_fold (w' := (iw_Pr_init_28 w)) rfl ?_
  have hz145 : Zn 69 (iw_Pr_init_28 w) := z_Bo_init (n := 66) hz140
  have hr145 : Rn TA 69 (iw_Pr_init_28 w) := rn_Bo_init (n := 66) hr140
  refine J_t1 (rfa (S := S) f144 (by omega)) ?_
  refine J_t3 (rf_ag (S := S) (Ag.trans ag137 ag141 (by omega) (Nat.le_refl _)) (by omega)) ?_
  refine J_aast0 o141.1 g141 dX7_init_69 (tr_kd kA_19 (by omega)) rfl rl11 zA_19 ⟨by decide, by decide⟩ (tr_kd kA_66 (by omega)) rfl ⟨by decide, by decide⟩ (by have := lt_A kA_66 (by decide); omega) ?_
  refine J_fold (w' := (iw_Pr_init_29 w)) rfl ?_
  have hz146 : Zn 69 (iw_Pr_init_29 w) := Zn_up (c := 19) (k := 11) (v := (66 : Nat)) hz145 (by omega)
  have hr146 : Rn TA 69 (iw_Pr_init_29 w) := Rn_up (c := 19) (k := 11) (v := (66 : Nat)) hr145 (by omega)
  refine J_iincC (y := 12) o141 dX7_init_70 rfl (by decide +kernel) ?_
  refine J_foldL (L' := [some (.ref (ad 14)), some (.ref (ad 2)), some (.int (ii 12))]) rfl ?_
  refine J_goto 48 o141.1 dX7_init_73 (by decide) ?_
  refine J_iload_n o141.1 dX7_init_48 rfl ?_
  refine J_aldA_n o141 dX7_init_49 rfl ?_
  refine J_t1 (rfa (S := S) f142 (by omega)) ?_
  refine J_getR o141.1 g141 dX7_init_50 flX7_18 (tr_kd kA_14 (by omega)) rfl ?_
  refine J_t1 (congrArg (rf (sad S ad141).ad) ((congrArg Int.toNat (iv_Pr_init_29_14_2 w)).trans (rfl : _ = 19))) ?_
  refine J_alen o141.1 g141 dX7_init_53 (tr_kd kA_19 (by omega)) ⟨by decide, by decide⟩ zA_19 ?_
  refine J_icmp_ge 76 o141.1 dX7_init_54 (by decide) rl12 rl12 (fun _ => ?_) (fun c => absurd (by decide) c)
  refine J_iconst o141.1 dX7_init_76 ?_
  refine J_istore_n o141.1 dX7_init_77 (Nat.le_of_ble_eq_true rfl) ?_
  refine J_foldL (L' := [some (.ref (ad 14)), some (.ref (ad 2)), some (.int (ii 0))]) rfl ?_
  refine J_iload_n o141.1 dX7_init_78 rfl ?_
  refine J_aldA_n o141 dX7_init_79 rfl ?_
  refine J_t1 (rfa (S := S) f142 (by omega)) ?_
  refine J_getR o141.1 g141 dX7_init_80 flX7_22 (tr_kd kA_14 (by omega)) rfl ?_
  refine J_t1 (congrArg (rf (sad S ad141).ad) ((congrArg Int.toNat (iv_Pr_init_29_14_3 w)).trans (rfl : _ = 20))) ?_
  refine J_alen o141.1 g141 dX7_init_83 (tr_kd kA_20 (by omega)) ⟨by decide, by decide⟩ zA_20 ?_
  refine J_icmp_ge 106 o141.1 dX7_init_84 (by decide) rl0 rl6 (fun c => absurd c (by decide)) (fun _ => ?_)
  refine J_aldA_n o141 dX7_init_87 rfl ?_
  refine J_t1 (rfa (S := S) f142 (by omega)) ?_
  refine J_getR o141.1 g141 dX7_init_88 flX7_22 (tr_kd kA_14 (by omega)) rfl ?_
  refine J_t1 (congrArg (rf (sad S ad141).ad) ((congrArg Int.toNat (iv_Pr_init_29_14_3 w)).trans (rfl : _ = 20))) ?_
  refine J_iload_n o141.1 dX7_init_91 rfl ?_
  refine J_new (κ := 1) (n := 69) o141 TnA g141 kc141 dX7_init_92 mw200 mw201 mw116 rfl inWX0 tyX0_ok kA_70 ⟨by decide, by decide⟩ dfX0 hz146 hr146 rfl rfl ⟨Nat.le_of_ble_eq_true rfl, Nat.le_of_ble_eq_true rfl⟩ ?_
  intro K147 ad147 q147 sim147 o147 kc147 ag147 hq147 g147
  have f148 : ad147 14 = (ad 14) := ((ag147.1 14 (by omega)).trans f142)
  have f149 : ad147 2 = (ad 2) := ((ag147.1 2 (by omega)).trans f143)
  have agx147 := Ag.trans agx141 ag147 (by omega) (Nat.le_refl _)
  have simx147 := KSim.trans simx141 sim147
  have hz150 : Zn 70 (iw_Pr_init_29 w) := Zn_le (m := 70) hz146 (by omega)
  have hr150 : Rn TA 70 (iw_Pr_init_29 w) := Rn_le (m := 70) hr146 (by omega)
  refine J_dup o147.1 dX7_init_95 rfl ?_
  refine J_init (n := 70) (n' := 73) o147 TnA g147 kc147 dX7_init_96 lkX7_11 ml_Bo_init mw203 rfl ⟨Nat.le_of_ble_eq_true rfl, Nat.le_of_ble_eq_true rfl⟩ (b1 := q147) (vs' := []) (c_Bo_init (n := 70) kA_70 g147.2.1 hz150 hr150) (by rw [hq147]) rfl (by omega) rfl (c1s_a (c1s_i (c1s_r c1s_0 (Nat.le_of_ble_eq_true rfl)) (Nat.le_of_ble_eq_true rfl)) (Nat.le_of_ble_eq_true rfl)) rfl rfl ⟨Nat.le_of_ble_eq_true rfl, Nat.le_of_ble_eq_true rfl⟩ ?_
  intro K151 ad151 sim151 o151 kc151 ag151 g151
  have f152 : ad151 14 = (ad 14) := ((ag151.1 14 (by omega)).trans f148)
  have f153 : ad151 2 = (ad 2) := ((ag151.1 2 (by omega)).trans f149)
  have f154 : ad151 70 = q147 := ((ag151.1 70 (by omega)).trans hq147)
  have agx151 := Ag.trans agx147 ag151 (by omega) (Nat.le_refl _)
  have simx151 := KSim.trans simx147 sim151
  refine J_fold (w' := (iw_Pr_init_30 w)) rfl ?_
  have hz155 : Zn 73 (iw_Pr_init_30 w) := z_Bo_init (n := 70) hz150
  have hr155 : Rn TA 73 (iw_Pr_init_30 w) := rn_Bo_init (n := 70) hr150
  refine J_t1 (rfa (S := S) f154 (by omega)) ?_
  refine J_t3 (rf_ag (S := S) (Ag.trans ag147 ag151 (by omega) (Nat.le_refl _)) (by omega)) ?_
  refine J_aast0 o151.1 g151 dX7_init_99 (tr_kd kA_20 (by omega)) rfl rl0 zA_20 ⟨by decide, by decide⟩ (tr_kd kA_70 (by omega)) rfl ⟨by decide, by decide⟩ (by have := lt_A kA_70 (by decide); omega) ?_
  refine J_fold (w' := (iw_Pr_init_31 w)) rfl ?_
  have hz156 : Zn 73 (iw_Pr_init_31 w) := Zn_up (c := 20) (k := 0) (v := (70 : Nat)) hz155 (by omega)
  have hr156 : Rn TA 73 (iw_Pr_init_31 w) := Rn_up (c := 20) (k := 0) (v := (70 : Nat)) hr155 (by omega)
  refine J_iincC (y := 1) o151 dX7_init_100 rfl (by decide +kernel) ?_
  refine J_foldL (L' := [some (.ref (ad 14)), some (.ref (ad 2)), some (.int (ii 1))]) rfl ?_
  refine J_goto 78 o151.1 dX7_init_103 (by decide) ?_
  refine J_iload_n o151.1 dX7_init_78 rfl ?_
  refine J_aldA_n o151 dX7_init_79 rfl ?_
  refine J_t1 (rfa (S := S) f152 (by omega)) ?_
  refine J_getR o151.1 g151 dX7_init_80 flX7_22 (tr_kd kA_14 (by omega)) rfl ?_
  refine J_t1 (congrArg (rf (sad S ad151).ad) ((congrArg Int.toNat (iv_Pr_init_31_14_3 w)).trans (rfl : _ = 20))) ?_
  refine J_alen o151.1 g151 dX7_init_83 (tr_kd kA_20 (by omega)) ⟨by decide, by decide⟩ zA_20 ?_
  refine J_icmp_ge 106 o151.1 dX7_init_84 (by decide) rl1 rl6 (fun c => absurd c (by decide)) (fun _ => ?_)
  refine J_aldA_n o151 dX7_init_87 rfl ?_
  refine J_t1 (rfa (S := S) f152 (by omega)) ?_
  refine J_getR o151.1 g151 dX7_init_88 flX7_22 (tr_kd kA_14 (by omega)) rfl ?_
  refine J_t1 (congrArg (rf (sad S ad151).ad) ((congrArg Int.toNat (iv_Pr_init_31_14_3 w)).trans (rfl : _ = 20))) ?_
  refine J_iload_n o151.1 dX7_init_91 rfl ?_
  refine J_new (κ := 1) (n := 73) o151 TnA g151 kc151 dX7_init_92 mw200 mw201 mw116 rfl inWX0 tyX0_ok kA_74 ⟨by decide, by decide⟩ dfX0 hz156 hr156 rfl rfl ⟨Nat.le_of_ble_eq_true rfl, Nat.le_of_ble_eq_true rfl⟩ ?_
  intro K157 ad157 q157 sim157 o157 kc157 ag157 hq157 g157
  have f158 : ad157 14 = (ad 14) := ((ag157.1 14 (by omega)).trans f152)
  have f159 : ad157 2 = (ad 2) := ((ag157.1 2 (by omega)).trans f153)
  have agx157 := Ag.trans agx151 ag157 (by omega) (Nat.le_refl _)
  have simx157 := KSim.trans simx151 sim157
  have hz160 : Zn 74 (iw_Pr_init_31 w) := Zn_le (m := 74) hz156 (by omega)
  have hr160 : Rn TA 74 (iw_Pr_init_31 w) := Rn_le (m := 74) hr156 (by omega)
  refine J_dup o157.1 dX7_init_95 rfl ?_
  refine J_init (n := 74) (n' := 77) o157 TnA g157 kc157 dX7_init_96 lkX7_11 ml_Bo_init mw203 rfl ⟨Nat.le_of_ble_eq_true rfl, Nat.le_of_ble_eq_true rfl⟩ (b1 := q157) (vs' := []) (c_Bo_init (n := 74) kA_74 g157.2.1 hz160 hr160) (by rw [hq157]) rfl (by omega) rfl (c1s_a (c1s_i (c1s_r c1s_0 (Nat.le_of_ble_eq_true rfl)) (Nat.le_of_ble_eq_true rfl)) (Nat.le_of_ble_eq_true rfl)) rfl rfl ⟨Nat.le_of_ble_eq_true rfl, Nat.le_of_ble_eq_true rfl⟩ ?_
  intro K161 ad161 sim161 o161 kc161 ag161 g161
  have f162 : ad161 14 = (ad 14) := ((ag161.1 14 (by omega)).trans f158)
  have f163 : ad161 2 = (ad 2) := ((ag161.1 2 (by omega)).trans f159)
  have f164 : ad161 74 = q157 := ((ag161.1 74 (by omega)).trans hq157)
  have agx161 := Ag.trans agx157 ag161 (by omega) (Nat.le_refl _)
  have simx161 := KSim.trans simx157 sim161
  refine J_fold (w' := (iw_Pr_init_32 w)) rfl ?_
  have hz165 : Zn 77 (iw_Pr_init_32 w) := z_Bo_init (n := 74) hz160
  have hr165 : Rn TA 77 (iw_Pr_init_32 w) := rn_Bo_init (n := 74) hr160
  refine J_t1 (rfa (S := S) f164 (by omega)) ?_
  refine J_t3 (rf_ag (S := S) (Ag.trans ag157 ag161 (by omega) (Nat.le_refl _)) (by omega)) ?_
  refine J_aast0 o161.1 g161 dX7_init_99 (tr_kd kA_20 (by omega)) rfl rl1 zA_20 ⟨by decide, by decide⟩ (tr_kd kA_74 (by omega)) rfl ⟨by decide, by decide⟩ (by have := lt_A kA_74 (by decide); omega) ?_
  refine J_fold (w' := (iw_Pr_init_33 w)) rfl ?_
  have hz166 : Zn 77 (iw_Pr_init_33 w) := Zn_up (c := 20) (k := 1) (v := (74 : Nat)) hz165 (by omega)
  have hr166 : Rn TA 77 (iw_Pr_init_33 w) := Rn_up (c := 20) (k := 1) (v := (74 : Nat)) hr165 (by omega)
  refine J_iincC (y := 2) o161 dX7_init_100 rfl (by decide +kernel) ?_
  refine J_foldL (L' := [some (.ref (ad 14)), some (.ref (ad 2)), some (.int (ii 2))]) rfl ?_
  refine J_goto 78 o161.1 dX7_init_103 (by decide) ?_
  refine J_iload_n o161.1 dX7_init_78 rfl ?_
  refine J_aldA_n o161 dX7_init_79 rfl ?_
  refine J_t1 (rfa (S := S) f162 (by omega)) ?_
  refine J_getR o161.1 g161 dX7_init_80 flX7_22 (tr_kd kA_14 (by omega)) rfl ?_
  refine J_t1 (congrArg (rf (sad S ad161).ad) ((congrArg Int.toNat (iv_Pr_init_33_14_3 w)).trans (rfl : _ = 20))) ?_
  refine J_alen o161.1 g161 dX7_init_83 (tr_kd kA_20 (by omega)) ⟨by decide, by decide⟩ zA_20 ?_
  refine J_icmp_ge 106 o161.1 dX7_init_84 (by decide) rl2 rl6 (fun c => absurd c (by decide)) (fun _ => ?_)
  refine J_aldA_n o161 dX7_init_87 rfl ?_
  refine J_t1 (rfa (S := S) f162 (by omega)) ?_
  refine J_getR o161.1 g161 dX7_init_88 flX7_22 (tr_kd kA_14 (by omega)) rfl ?_
  refine J_t1 (congrArg (rf (sad S ad161).ad) ((congrArg Int.toNat (iv_Pr_init_33_14_3 w)).trans (rfl : _ = 20))) ?_
  refine J_iload_n o161.1 dX7_init_91 rfl ?_
  refine J_new (κ := 1) (n := 77) o161 TnA g161 kc161 dX7_init_92 mw200 mw201 mw116 rfl inWX0 tyX0_ok kA_78 ⟨by decide, by decide⟩ dfX0 hz166 hr166 rfl rfl ⟨Nat.le_of_ble_eq_true rfl, Nat.le_of_ble_eq_true rfl⟩ ?_
  intro K167 ad167 q167 sim167 o167 kc167 ag167 hq167 g167
  have f168 : ad167 14 = (ad 14) := ((ag167.1 14 (by omega)).trans f162)
  have f169 : ad167 2 = (ad 2) := ((ag167.1 2 (by omega)).trans f163)
  have agx167 := Ag.trans agx161 ag167 (by omega) (Nat.le_refl _)
  have simx167 := KSim.trans simx161 sim167
  have hz170 : Zn 78 (iw_Pr_init_33 w) := Zn_le (m := 78) hz166 (by omega)
  have hr170 : Rn TA 78 (iw_Pr_init_33 w) := Rn_le (m := 78) hr166 (by omega)
  refine J_dup o167.1 dX7_init_95 rfl ?_
  refine J_init (n := 78) (n' := 81) o167 TnA g167 kc167 dX7_init_96 lkX7_11 ml_Bo_init mw203 rfl ⟨Nat.le_of_ble_eq_true rfl, Nat.le_of_ble_eq_true rfl⟩ (b1 := q167) (vs' := []) (c_Bo_init (n := 78) kA_78 g167.2.1 hz170 hr170) (by rw [hq167]) rfl (by omega) rfl (c1s_a (c1s_i (c1s_r c1s_0 (Nat.le_of_ble_eq_true rfl)) (Nat.le_of_ble_eq_true rfl)) (Nat.le_of_ble_eq_true rfl)) rfl rfl ⟨Nat.le_of_ble_eq_true rfl, Nat.le_of_ble_eq_true rfl⟩ ?_
  intro K171 ad171 sim171 o171 kc171 ag171 g171
  have f172 : ad171 14 = (ad 14) := ((ag171.1 14 (by omega)).trans f168)
  have f173 : ad171 2 = (ad 2) := ((ag171.1 2 (by omega)).trans f169)
  have f174 : ad171 78 = q167 := ((ag171.1 78 (by omega)).trans hq167)
  have agx171 := Ag.trans agx167 ag171 (by omega) (Nat.le_refl _)
  have simx171 := KSim.trans simx167 sim171
  refine J_fold (w' := (iw_Pr_init_34 w)) rfl ?_
  have hz175 : Zn 81 (iw_Pr_init_34 w) := z_Bo_init (n := 78) hz170
  have hr175 : Rn TA 81 (iw_Pr_init_34 w) := rn_Bo_init (n := 78) hr170
  refine J_t1 (rfa (S := S) f174 (by omega)) ?_
  refine J_t3 (rf_ag (S := S) (Ag.trans ag167 ag171 (by omega) (Nat.le_refl _)) (by omega)) ?_
  refine J_aast0 o171.1 g171 dX7_init_99 (tr_kd kA_20 (by omega)) rfl rl2 zA_20 ⟨by decide, by decide⟩ (tr_kd kA_78 (by omega)) rfl ⟨by decide, by decide⟩ (by have := lt_A kA_78 (by decide); omega) ?_
  refine J_fold (w' := (iw_Pr_init_35 w)) rfl ?_
  have hz176 : Zn 81 (iw_Pr_init_35 w) := Zn_up (c := 20) (k := 2) (v := (78 : Nat)) hz175 (by omega)
  have hr176 : Rn TA 81 (iw_Pr_init_35 w) := Rn_up (c := 20) (k := 2) (v := (78 : Nat)) hr175 (by omega)
  refine J_iincC (y := 3) o171 dX7_init_100 rfl (by decide +kernel) ?_
  refine J_foldL (L' := [some (.ref (ad 14)), some (.ref (ad 2)), some (.int (ii 3))]) rfl ?_
  refine J_goto 78 o171.1 dX7_init_103 (by decide) ?_
  refine J_iload_n o171.1 dX7_init_78 rfl ?_
  refine J_aldA_n o171 dX7_init_79 rfl ?_
  refine J_t1 (rfa (S := S) f172 (by omega)) ?_
  refine J_getR o171.1 g171 dX7_init_80 flX7_22 (tr_kd kA_14 (by omega)) rfl ?_
  refine J_t1 (congrArg (rf (sad S ad171).ad) ((congrArg Int.toNat (iv_Pr_init_35_14_3 w)).trans (rfl : _ = 20))) ?_
  refine J_alen o171.1 g171 dX7_init_83 (tr_kd kA_20 (by omega)) ⟨by decide, by decide⟩ zA_20 ?_
  refine J_icmp_ge 106 o171.1 dX7_init_84 (by decide) rl3 rl6 (fun c => absurd c (by decide)) (fun _ => ?_)
  refine J_aldA_n o171 dX7_init_87 rfl ?_
  refine J_t1 (rfa (S := S) f172 (by omega)) ?_
  refine J_getR o171.1 g171 dX7_init_88 flX7_22 (tr_kd kA_14 (by omega)) rfl ?_
  refine J_t1 (congrArg (rf (sad S ad171).ad) ((congrArg Int.toNat (iv_Pr_init_35_14_3 w)).trans (rfl : _ = 20))) ?_
  refine J_iload_n o171.1 dX7_init_91 rfl ?_
  refine J_new (κ := 1) (n := 81) o171 TnA g171 kc171 dX7_init_92 mw200 mw201 mw116 rfl inWX0 tyX0_ok kA_82 ⟨by decide, by decide⟩ dfX0 hz176 hr176 rfl rfl ⟨Nat.le_of_ble_eq_true rfl, Nat.le_of_ble_eq_true rfl⟩ ?_
  intro K177 ad177 q177 sim177 o177 kc177 ag177 hq177 g177
  have f178 : ad177 14 = (ad 14) := ((ag177.1 14 (by omega)).trans f172)
  have f179 : ad177 2 = (ad 2) := ((ag177.1 2 (by omega)).trans f173)
  have agx177 := Ag.trans agx171 ag177 (by omega) (Nat.le_refl _)
  have simx177 := KSim.trans simx171 sim177
  have hz180 : Zn 82 (iw_Pr_init_35 w) := Zn_le (m := 82) hz176 (by omega)
  have hr180 : Rn TA 82 (iw_Pr_init_35 w) := Rn_le (m := 82) hr176 (by omega)
  refine J_dup o177.1 dX7_init_95 rfl ?_
  refine J_init (n := 82) (n' := 85) o177 TnA g177 kc177 dX7_init_96 lkX7_11 ml_Bo_init mw203 rfl ⟨Nat.le_of_ble_eq_true rfl, Nat.le_of_ble_eq_true rfl⟩ (b1 := q177) (vs' := []) (c_Bo_init (n := 82) kA_82 g177.2.1 hz180 hr180) (by rw [hq177]) rfl (by omega) rfl (c1s_a (c1s_i (c1s_r c1s_0 (Nat.le_of_ble_eq_true rfl)) (Nat.le_of_ble_eq_true rfl)) (Nat.le_of_ble_eq_true rfl)) rfl rfl ⟨Nat.le_of_ble_eq_true rfl, Nat.le_of_ble_eq_true rfl⟩ ?_
  intro K181 ad181 sim181 o181 kc181 ag181 g181
  have f182 : ad181 14 = (ad 14) := ((ag181.1 14 (by omega)).trans f178)
  have f183 : ad181 2 = (ad 2) := ((ag181.1 2 (by omega)).trans f179)
  have f184 : ad181 82 = q177 := ((ag181.1 82 (by omega)).trans hq177)
  have agx181 := Ag.trans agx177 ag181 (by omega) (Nat.le_refl _)
  have simx181 := KSim.trans simx177 sim181
  refine J_fold (w' := (iw_Pr_init_36 w)) rfl ?_
  have hz185 : Zn 85 (iw_Pr_init_36 w) := z_Bo_init (n := 82) hz180
  have hr185 : Rn TA 85 (iw_Pr_init_36 w) := rn_Bo_init (n := 82) hr180
  refine J_t1 (rfa (S := S) f184 (by omega)) ?_
  refine J_t3 (rf_ag (S := S) (Ag.trans ag177 ag181 (by omega) (Nat.le_refl _)) (by omega)) ?_
  refine J_aast0 o181.1 g181 dX7_init_99 (tr_kd kA_20 (by omega)) rfl rl3 zA_20 ⟨by decide, by decide⟩ (tr_kd kA_82 (by omega)) rfl ⟨by decide, by decide⟩ (by have := lt_A kA_82 (by decide); omega) ?_
  refine J_fold (w' := (iw_Pr_init_37 w)) rfl ?_
  have hz186 : Zn 85 (iw_Pr_init_37 w) := Zn_up (c := 20) (k := 3) (v := (82 : Nat)) hz185 (by omega)
  have hr186 : Rn TA 85 (iw_Pr_init_37 w) := Rn_up (c := 20) (k := 3) (v := (82 : Nat)) hr185 (by omega)
  refine J_iincC (y := 4) o181 dX7_init_100 rfl (by decide +kernel) ?_
  refine J_foldL (L' := [some (.ref (ad 14)), some (.ref (ad 2)), some (.int (ii 4))]) rfl ?_
  refine J_goto 78 o181.1 dX7_init_103 (by decide) ?_
  refine J_iload_n o181.1 dX7_init_78 rfl ?_
  refine J_aldA_n o181 dX7_init_79 rfl ?_
  refine J_t1 (rfa (S := S) f182 (by omega)) ?_
  refine J_getR o181.1 g181 dX7_init_80 flX7_22 (tr_kd kA_14 (by omega)) rfl ?_
  refine J_t1 (congrArg (rf (sad S ad181).ad) ((congrArg Int.toNat (iv_Pr_init_37_14_3 w)).trans (rfl : _ = 20))) ?_
  refine J_alen o181.1 g181 dX7_init_83 (tr_kd kA_20 (by omega)) ⟨by decide, by decide⟩ zA_20 ?_
  refine J_icmp_ge 106 o181.1 dX7_init_84 (by decide) rl4 rl6 (fun c => absurd c (by decide)) (fun _ => ?_)
  refine J_aldA_n o181 dX7_init_87 rfl ?_
  refine J_t1 (rfa (S := S) f182 (by omega)) ?_
  refine J_getR o181.1 g181 dX7_init_88 flX7_22 (tr_kd kA_14 (by omega)) rfl ?_
  refine J_t1 (congrArg (rf (sad S ad181).ad) ((congrArg Int.toNat (iv_Pr_init_37_14_3 w)).trans (rfl : _ = 20))) ?_
  refine J_iload_n o181.1 dX7_init_91 rfl ?_
  refine J_new (κ := 1) (n := 85) o181 TnA g181 kc181 dX7_init_92 mw200 mw201 mw116 rfl inWX0 tyX0_ok kA_86 ⟨by decide, by decide⟩ dfX0 hz186 hr186 rfl rfl ⟨Nat.le_of_ble_eq_true rfl, Nat.le_of_ble_eq_true rfl⟩ ?_
  intro K187 ad187 q187 sim187 o187 kc187 ag187 hq187 g187
  have f188 : ad187 14 = (ad 14) := ((ag187.1 14 (by omega)).trans f182)
  have f189 : ad187 2 = (ad 2) := ((ag187.1 2 (by omega)).trans f183)
  have agx187 := Ag.trans agx181 ag187 (by omega) (Nat.le_refl _)
  have simx187 := KSim.trans simx181 sim187
  have hz190 : Zn 86 (iw_Pr_init_37 w) := Zn_le (m := 86) hz186 (by omega)
  have hr190 : Rn TA 86 (iw_Pr_init_37 w) := Rn_le (m := 86) hr186 (by omega)
  refine J_dup o187.1 dX7_init_95 rfl ?_
  refine J_init (n := 86) (n' := 89) o187 TnA g187 kc187 dX7_init_96 lkX7_11 ml_Bo_init mw203 rfl ⟨Nat.le_of_ble_eq_true rfl, Nat.le_of_ble_eq_true rfl⟩ (b1 := q187) (vs' := []) (c_Bo_init (n := 86) kA_86 g187.2.1 hz190 hr190) (by rw [hq187]) rfl (by omega) rfl (c1s_a (c1s_i (c1s_r c1s_0 (Nat.le_of_ble_eq_true rfl)) (Nat.le_of_ble_eq_true rfl)) (Nat.le_of_ble_eq_true rfl)) rfl rfl ⟨Nat.le_of_ble_eq_true rfl, Nat.le_of_ble_eq_true rfl⟩ ?_
  intro K191 ad191 sim191 o191 kc191 ag191 g191
  have f192 : ad191 14 = (ad 14) := ((ag191.1 14 (by omega)).trans f188)
  have f193 : ad191 2 = (ad 2) := ((ag191.1 2 (by omega)).trans f189)
  have f194 : ad191 86 = q187 := ((ag191.1 86 (by omega)).trans hq187)
  have agx191 := Ag.trans agx187 ag191 (by omega) (Nat.le_refl _)
  have simx191 := KSim.trans simx187 sim191
  refine J_fold (w' := (iw_Pr_init_38 w)) rfl ?_
  have hz195 : Zn 89 (iw_Pr_init_38 w) := z_Bo_init (n := 86) hz190
  have hr195 : Rn TA 89 (iw_Pr_init_38 w) := rn_Bo_init (n := 86) hr190
  refine J_t1 (rfa (S := S) f194 (by omega)) ?_
  refine J_t3 (rf_ag (S := S) (Ag.trans ag187 ag191 (by omega) (Nat.le_refl _)) (by omega)) ?_
  refine J_aast0 o191.1 g191 dX7_init_99 (tr_kd kA_20 (by omega)) rfl rl4 zA_20 ⟨by decide, by decide⟩ (tr_kd kA_86 (by omega)) rfl ⟨by decide, by decide⟩ (by have := lt_A kA_86 (by decide); omega) ?_
  refine J_fold (w' := (iw_Pr_init_39 w)) rfl ?_
  have hz196 : Zn 89 (iw_Pr_init_39 w) := Zn_up (c := 20) (k := 4) (v := (86 : Nat)) hz195 (by omega)
  have hr196 : Rn TA 89 (iw_Pr_init_39 w) := Rn_up (c := 20) (k := 4) (v := (86 : Nat)) hr195 (by omega)
  refine J_iincC (y := 5) o191 dX7_init_100 rfl (by decide +kernel) ?_
  refine J_foldL (L' := [some (.ref (ad 14)), some (.ref (ad 2)), some (.int (ii 5))]) rfl ?_
  refine J_goto 78 o191.1 dX7_init_103 (by decide) ?_
  refine J_iload_n o191.1 dX7_init_78 rfl ?_
  refine J_aldA_n o191 dX7_init_79 rfl ?_
  refine J_t1 (rfa (S := S) f192 (by omega)) ?_
  refine J_getR o191.1 g191 dX7_init_80 flX7_22 (tr_kd kA_14 (by omega)) rfl ?_
  refine J_t1 (congrArg (rf (sad S ad191).ad) ((congrArg Int.toNat (iv_Pr_init_39_14_3 w)).trans (rfl : _ = 20))) ?_
  refine J_alen o191.1 g191 dX7_init_83 (tr_kd kA_20 (by omega)) ⟨by decide, by decide⟩ zA_20 ?_
  refine J_icmp_ge 106 o191.1 dX7_init_84 (by decide) rl5 rl6 (fun c => absurd c (by decide)) (fun _ => ?_)
  refine J_aldA_n o191 dX7_init_87 rfl ?_
  refine J_t1 (rfa (S := S) f192 (by omega)) ?_
  refine J_getR o191.1 g191 dX7_init_88 flX7_22 (tr_kd kA_14 (by omega)) rfl ?_
  refine J_t1 (congrArg (rf (sad S ad191).ad) ((congrArg Int.toNat (iv_Pr_init_39_14_3 w)).trans (rfl : _ = 20))) ?_
  refine J_iload_n o191.1 dX7_init_91 rfl ?_
  refine J_new (κ := 1) (n := 89) o191 TnA g191 kc191 dX7_init_92 mw200 mw201 mw116 rfl inWX0 tyX0_ok kA_90 ⟨by decide, by decide⟩ dfX0 hz196 hr196 rfl rfl ⟨Nat.le_of_ble_eq_true rfl, Nat.le_of_ble_eq_true rfl⟩ ?_
  intro K197 ad197 q197 sim197 o197 kc197 ag197 hq197 g197
  have f198 : ad197 14 = (ad 14) := ((ag197.1 14 (by omega)).trans f192)
  have f199 : ad197 2 = (ad 2) := ((ag197.1 2 (by omega)).trans f193)
  have agx197 := Ag.trans agx191 ag197 (by omega) (Nat.le_refl _)
  have simx197 := KSim.trans simx191 sim197
  have hz200 : Zn 90 (iw_Pr_init_39 w) := Zn_le (m := 90) hz196 (by omega)
  have hr200 : Rn TA 90 (iw_Pr_init_39 w) := Rn_le (m := 90) hr196 (by omega)
  refine J_dup o197.1 dX7_init_95 rfl ?_
  refine J_init (n := 90) (n' := 93) o197 TnA g197 kc197 dX7_init_96 lkX7_11 ml_Bo_init mw203 rfl ⟨Nat.le_of_ble_eq_true rfl, Nat.le_of_ble_eq_true rfl⟩ (b1 := q197) (vs' := []) (c_Bo_init (n := 90) kA_90 g197.2.1 hz200 hr200) (by rw [hq197]) rfl (by omega) rfl (c1s_a (c1s_i (c1s_r c1s_0 (Nat.le_of_ble_eq_true rfl)) (Nat.le_of_ble_eq_true rfl)) (Nat.le_of_ble_eq_true rfl)) rfl rfl ⟨Nat.le_of_ble_eq_true rfl, Nat.le_of_ble_eq_true rfl⟩ ?_
  intro K201 ad201 sim201 o201 kc201 ag201 g201
  have f202 : ad201 14 = (ad 14) := ((ag201.1 14 (by omega)).trans f198)
  have f203 : ad201 2 = (ad 2) := ((ag201.1 2 (by omega)).trans f199)
  have f204 : ad201 90 = q197 := ((ag201.1 90 (by omega)).trans hq197)
  have agx201 := Ag.trans agx197 ag201 (by omega) (Nat.le_refl _)
  have simx201 := KSim.trans simx197 sim201
  refine J_fold (w' := (iw_Pr_init_40 w)) rfl ?_
  have hz205 : Zn 93 (iw_Pr_init_40 w) := z_Bo_init (n := 90) hz200
  have hr205 : Rn TA 93 (iw_Pr_init_40 w) := rn_Bo_init (n := 90) hr200
  refine J_t1 (rfa (S := S) f204 (by omega)) ?_
  refine J_t3 (rf_ag (S := S) (Ag.trans ag197 ag201 (by omega) (Nat.le_refl _)) (by omega)) ?_
  refine J_aast0 o201.1 g201 dX7_init_99 (tr_kd kA_20 (by omega)) rfl rl5 zA_20 ⟨by decide, by decide⟩ (tr_kd kA_90 (by omega)) rfl ⟨by decide, by decide⟩ (by have := lt_A kA_90 (by decide); omega) ?_
  refine J_fold (w' := (iw_Pr_init_41 w)) rfl ?_
  have hz206 : Zn 93 (iw_Pr_init_41 w) := Zn_up (c := 20) (k := 5) (v := (90 : Nat)) hz205 (by omega)
  have hr206 : Rn TA 93 (iw_Pr_init_41 w) := Rn_up (c := 20) (k := 5) (v := (90 : Nat)) hr205 (by omega)
  refine J_iincC (y := 6) o201 dX7_init_100 rfl (by decide +kernel) ?_
  refine J_foldL (L' := [some (.ref (ad 14)), some (.ref (ad 2)), some (.int (ii 6))]) rfl ?_
  refine J_goto 78 o201.1 dX7_init_103 (by decide) ?_
  refine J_iload_n o201.1 dX7_init_78 rfl ?_
  refine J_aldA_n o201 dX7_init_79 rfl ?_
  refine J_t1 (rfa (S := S) f202 (by omega)) ?_
  refine J_getR o201.1 g201 dX7_init_80 flX7_22 (tr_kd kA_14 (by omega)) rfl ?_
  refine J_t1 (congrArg (rf (sad S ad201).ad) ((congrArg Int.toNat (iv_Pr_init_41_14_3 w)).trans (rfl : _ = 20))) ?_
  refine J_alen o201.1 g201 dX7_init_83 (tr_kd kA_20 (by omega)) ⟨by decide, by decide⟩ zA_20 ?_
  refine J_icmp_ge 106 o201.1 dX7_init_84 (by decide) rl6 rl6 (fun _ => ?_) (fun c => absurd (by decide) c)
  exact hret _ _ _ _ _ _ simx201 kc201 ⟨Nat.le_of_ble_eq_true rfl, Nat.le_of_ble_eq_true rfl⟩ agx201 g201 dX7_init_106
theorem z_Pr_init {w : World} (hz : Zn 14 w) : Zn 93 (i_Pr_init w) := by
  have hz4 : Zn 15 w := Zn_le (m := 15) hz (by omega)
  have hz9 : Zn 18 (iw_Pr_init_0 w) := z_Bo_init (n := 15) hz4
  have hz10 : Zn 18 (iw_Pr_init_1 w) := Zn_up (c := 14) (k := 1) (v := (15 : Nat)) hz9 (by omega)
  have hz14 : Zn 19 (iw_Pr_init_1 w) := Zn_le (m := 19) hz10 (by omega)
  have hz15 : Zn 19 (iw_Pr_init_2 w) := Zn_up (c := 14) (k := 2) (v := (19 : Nat)) hz14 (by omega)
  have hz19 : Zn 20 (iw_Pr_init_2 w) := Zn_le (m := 20) hz15 (by omega)
  have hz20 : Zn 20 (iw_Pr_init_3 w) := Zn_up (c := 14) (k := 3) (v := (20 : Nat)) hz19 (by omega)
  have hz24 : Zn 21 (iw_Pr_init_3 w) := Zn_le (m := 21) hz20 (by omega)
  have hz25 : Zn 21 (iw_Pr_init_4 w) := Zn_up (c := 14) (k := 6) (v := (21 : Nat)) hz24 (by omega)
  have hz26 : Zn 21 (iw_Pr_init_5 w) := Zn_up (c := 14) (k := 0) (v := (2 : Nat)) hz25 (by omega)
  have hz30 : Zn 22 (iw_Pr_init_5 w) := Zn_le (m := 22) hz26 (by omega)
  have hz35 : Zn 25 (iw_Pr_init_6 w) := z_Bo_init (n := 22) hz30
  have hz36 : Zn 25 (iw_Pr_init_7 w) := Zn_up (c := 19) (k := 0) (v := (22 : Nat)) hz35 (by omega)
  have hz40 : Zn 26 (iw_Pr_init_7 w) := Zn_le (m := 26) hz36 (by omega)
  have hz45 : Zn 29 (iw_Pr_init_8 w) := z_Bo_init (n := 26) hz40
  have hz46 : Zn 29 (iw_Pr_init_9 w) := Zn_up (c := 19) (k := 1) (v := (26 : Nat)) hz45 (by omega)
  have hz50 : Zn 30 (iw_Pr_init_9 w) := Zn_le (m := 30) hz46 (by omega)
  have hz55 : Zn 33 (iw_Pr_init_10 w) := z_Bo_init (n := 30) hz50
  have hz56 : Zn 33 (iw_Pr_init_11 w) := Zn_up (c := 19) (k := 2) (v := (30 : Nat)) hz55 (by omega)
  have hz60 : Zn 34 (iw_Pr_init_11 w) := Zn_le (m := 34) hz56 (by omega)
  have hz65 : Zn 37 (iw_Pr_init_12 w) := z_Bo_init (n := 34) hz60
  have hz66 : Zn 37 (iw_Pr_init_13 w) := Zn_up (c := 19) (k := 3) (v := (34 : Nat)) hz65 (by omega)
  have hz70 : Zn 38 (iw_Pr_init_13 w) := Zn_le (m := 38) hz66 (by omega)
  have hz75 : Zn 41 (iw_Pr_init_14 w) := z_Bo_init (n := 38) hz70
  have hz76 : Zn 41 (iw_Pr_init_15 w) := Zn_up (c := 19) (k := 4) (v := (38 : Nat)) hz75 (by omega)
  have hz80 : Zn 42 (iw_Pr_init_15 w) := Zn_le (m := 42) hz76 (by omega)
  have hz85 : Zn 45 (iw_Pr_init_16 w) := z_Bo_init (n := 42) hz80
  have hz86 : Zn 45 (iw_Pr_init_17 w) := Zn_up (c := 19) (k := 5) (v := (42 : Nat)) hz85 (by omega)
  have hz90 : Zn 46 (iw_Pr_init_17 w) := Zn_le (m := 46) hz86 (by omega)
  have hz95 : Zn 49 (iw_Pr_init_18 w) := z_Bo_init (n := 46) hz90
  have hz96 : Zn 49 (iw_Pr_init_19 w) := Zn_up (c := 19) (k := 6) (v := (46 : Nat)) hz95 (by omega)
  have hz100 : Zn 50 (iw_Pr_init_19 w) := Zn_le (m := 50) hz96 (by omega)
  have hz105 : Zn 53 (iw_Pr_init_20 w) := z_Bo_init (n := 50) hz100
  have hz106 : Zn 53 (iw_Pr_init_21 w) := Zn_up (c := 19) (k := 7) (v := (50 : Nat)) hz105 (by omega)
  have hz110 : Zn 54 (iw_Pr_init_21 w) := Zn_le (m := 54) hz106 (by omega)
  have hz115 : Zn 57 (iw_Pr_init_22 w) := z_Bo_init (n := 54) hz110
  have hz116 : Zn 57 (iw_Pr_init_23 w) := Zn_up (c := 19) (k := 8) (v := (54 : Nat)) hz115 (by omega)
  have hz120 : Zn 58 (iw_Pr_init_23 w) := Zn_le (m := 58) hz116 (by omega)
  have hz125 : Zn 61 (iw_Pr_init_24 w) := z_Bo_init (n := 58) hz120
  have hz126 : Zn 61 (iw_Pr_init_25 w) := Zn_up (c := 19) (k := 9) (v := (58 : Nat)) hz125 (by omega)
  have hz130 : Zn 62 (iw_Pr_init_25 w) := Zn_le (m := 62) hz126 (by omega)
  have hz135 : Zn 65 (iw_Pr_init_26 w) := z_Bo_init (n := 62) hz130
  have hz136 : Zn 65 (iw_Pr_init_27 w) := Zn_up (c := 19) (k := 10) (v := (62 : Nat)) hz135 (by omega)
  have hz140 : Zn 66 (iw_Pr_init_27 w) := Zn_le (m := 66) hz136 (by omega)
  have hz145 : Zn 69 (iw_Pr_init_28 w) := z_Bo_init (n := 66) hz140
  have hz146 : Zn 69 (iw_Pr_init_29 w) := Zn_up (c := 19) (k := 11) (v := (66 : Nat)) hz145 (by omega)
  have hz150 : Zn 70 (iw_Pr_init_29 w) := Zn_le (m := 70) hz146 (by omega)
  have hz155 : Zn 73 (iw_Pr_init_30 w) := z_Bo_init (n := 70) hz150
  have hz156 : Zn 73 (iw_Pr_init_31 w) := Zn_up (c := 20) (k := 0) (v := (70 : Nat)) hz155 (by omega)
  have hz160 : Zn 74 (iw_Pr_init_31 w) := Zn_le (m := 74) hz156 (by omega)
  have hz165 : Zn 77 (iw_Pr_init_32 w) := z_Bo_init (n := 74) hz160
  have hz166 : Zn 77 (iw_Pr_init_33 w) := Zn_up (c := 20) (k := 1) (v := (74 : Nat)) hz165 (by omega)
  have hz170 : Zn 78 (iw_Pr_init_33 w) := Zn_le (m := 78) hz166 (by omega)
  have hz175 : Zn 81 (iw_Pr_init_34 w) := z_Bo_init (n := 78) hz170
  have hz176 : Zn 81 (iw_Pr_init_35 w) := Zn_up (c := 20) (k := 2) (v := (78 : Nat)) hz175 (by omega)
  have hz180 : Zn 82 (iw_Pr_init_35 w) := Zn_le (m := 82) hz176 (by omega)
  have hz185 : Zn 85 (iw_Pr_init_36 w) := z_Bo_init (n := 82) hz180
  have hz186 : Zn 85 (iw_Pr_init_37 w) := Zn_up (c := 20) (k := 3) (v := (82 : Nat)) hz185 (by omega)
  have hz190 : Zn 86 (iw_Pr_init_37 w) := Zn_le (m := 86) hz186 (by omega)
  have hz195 : Zn 89 (iw_Pr_init_38 w) := z_Bo_init (n := 86) hz190
  have hz196 : Zn 89 (iw_Pr_init_39 w) := Zn_up (c := 20) (k := 4) (v := (86 : Nat)) hz195 (by omega)
  have hz200 : Zn 90 (iw_Pr_init_39 w) := Zn_le (m := 90) hz196 (by omega)
  have hz205 : Zn 93 (iw_Pr_init_40 w) := z_Bo_init (n := 90) hz200
  have hz206 : Zn 93 (iw_Pr_init_41 w) := Zn_up (c := 20) (k := 5) (v := (90 : Nat)) hz205 (by omega)
  exact hz206
theorem rn_Pr_init {w : World} (hr : Rn TA 14 w) : Rn TA 93 (i_Pr_init w) := by
  have hr4 : Rn TA 15 w := Rn_le (m := 15) hr (by omega)
  have hr9 : Rn TA 18 (iw_Pr_init_0 w) := rn_Bo_init (n := 15) hr4
  have hr10 : Rn TA 18 (iw_Pr_init_1 w) := Rn_up (c := 14) (k := 1) (v := (15 : Nat)) hr9 (by omega)
  have hr14 : Rn TA 19 (iw_Pr_init_1 w) := Rn_le (m := 19) hr10 (by omega)
  have hr15 : Rn TA 19 (iw_Pr_init_2 w) := Rn_up (c := 14) (k := 2) (v := (19 : Nat)) hr14 (by omega)
  have hr19 : Rn TA 20 (iw_Pr_init_2 w) := Rn_le (m := 20) hr15 (by omega)
  have hr20 : Rn TA 20 (iw_Pr_init_3 w) := Rn_up (c := 14) (k := 3) (v := (20 : Nat)) hr19 (by omega)
  have hr24 : Rn TA 21 (iw_Pr_init_3 w) := Rn_le (m := 21) hr20 (by omega)
  have hr25 : Rn TA 21 (iw_Pr_init_4 w) := Rn_up (c := 14) (k := 6) (v := (21 : Nat)) hr24 (by omega)
  have hr26 : Rn TA 21 (iw_Pr_init_5 w) := Rn_up (c := 14) (k := 0) (v := (2 : Nat)) hr25 (by omega)
  have hr30 : Rn TA 22 (iw_Pr_init_5 w) := Rn_le (m := 22) hr26 (by omega)
  have hr35 : Rn TA 25 (iw_Pr_init_6 w) := rn_Bo_init (n := 22) hr30
  have hr36 : Rn TA 25 (iw_Pr_init_7 w) := Rn_up (c := 19) (k := 0) (v := (22 : Nat)) hr35 (by omega)
  have hr40 : Rn TA 26 (iw_Pr_init_7 w) := Rn_le (m := 26) hr36 (by omega)
  have hr45 : Rn TA 29 (iw_Pr_init_8 w) := rn_Bo_init (n := 26) hr40
  have hr46 : Rn TA 29 (iw_Pr_init_9 w) := Rn_up (c := 19) (k := 1) (v := (26 : Nat)) hr45 (by omega)
  have hr50 : Rn TA 30 (iw_Pr_init_9 w) := Rn_le (m := 30) hr46 (by omega)
  have hr55 : Rn TA 33 (iw_Pr_init_10 w) := rn_Bo_init (n := 30) hr50
  have hr56 : Rn TA 33 (iw_Pr_init_11 w) := Rn_up (c := 19) (k := 2) (v := (30 : Nat)) hr55 (by omega)
  have hr60 : Rn TA 34 (iw_Pr_init_11 w) := Rn_le (m := 34) hr56 (by omega)
  have hr65 : Rn TA 37 (iw_Pr_init_12 w) := rn_Bo_init (n := 34) hr60
  have hr66 : Rn TA 37 (iw_Pr_init_13 w) := Rn_up (c := 19) (k := 3) (v := (34 : Nat)) hr65 (by omega)
  have hr70 : Rn TA 38 (iw_Pr_init_13 w) := Rn_le (m := 38) hr66 (by omega)
  have hr75 : Rn TA 41 (iw_Pr_init_14 w) := rn_Bo_init (n := 38) hr70
  have hr76 : Rn TA 41 (iw_Pr_init_15 w) := Rn_up (c := 19) (k := 4) (v := (38 : Nat)) hr75 (by omega)
  have hr80 : Rn TA 42 (iw_Pr_init_15 w) := Rn_le (m := 42) hr76 (by omega)
  have hr85 : Rn TA 45 (iw_Pr_init_16 w) := rn_Bo_init (n := 42) hr80
  have hr86 : Rn TA 45 (iw_Pr_init_17 w) := Rn_up (c := 19) (k := 5) (v := (42 : Nat)) hr85 (by omega)
  have hr90 : Rn TA 46 (iw_Pr_init_17 w) := Rn_le (m := 46) hr86 (by omega)
  have hr95 : Rn TA 49 (iw_Pr_init_18 w) := rn_Bo_init (n := 46) hr90
  have hr96 : Rn TA 49 (iw_Pr_init_19 w) := Rn_up (c := 19) (k := 6) (v := (46 : Nat)) hr95 (by omega)
  have hr100 : Rn TA 50 (iw_Pr_init_19 w) := Rn_le (m := 50) hr96 (by omega)
  have hr105 : Rn TA 53 (iw_Pr_init_20 w) := rn_Bo_init (n := 50) hr100
  have hr106 : Rn TA 53 (iw_Pr_init_21 w) := Rn_up (c := 19) (k := 7) (v := (50 : Nat)) hr105 (by omega)
  have hr110 : Rn TA 54 (iw_Pr_init_21 w) := Rn_le (m := 54) hr106 (by omega)
  have hr115 : Rn TA 57 (iw_Pr_init_22 w) := rn_Bo_init (n := 54) hr110
  have hr116 : Rn TA 57 (iw_Pr_init_23 w) := Rn_up (c := 19) (k := 8) (v := (54 : Nat)) hr115 (by omega)
  have hr120 : Rn TA 58 (iw_Pr_init_23 w) := Rn_le (m := 58) hr116 (by omega)
  have hr125 : Rn TA 61 (iw_Pr_init_24 w) := rn_Bo_init (n := 58) hr120
  have hr126 : Rn TA 61 (iw_Pr_init_25 w) := Rn_up (c := 19) (k := 9) (v := (58 : Nat)) hr125 (by omega)
  have hr130 : Rn TA 62 (iw_Pr_init_25 w) := Rn_le (m := 62) hr126 (by omega)
  have hr135 : Rn TA 65 (iw_Pr_init_26 w) := rn_Bo_init (n := 62) hr130
  have hr136 : Rn TA 65 (iw_Pr_init_27 w) := Rn_up (c := 19) (k := 10) (v := (62 : Nat)) hr135 (by omega)
  have hr140 : Rn TA 66 (iw_Pr_init_27 w) := Rn_le (m := 66) hr136 (by omega)
  have hr145 : Rn TA 69 (iw_Pr_init_28 w) := rn_Bo_init (n := 66) hr140
  have hr146 : Rn TA 69 (iw_Pr_init_29 w) := Rn_up (c := 19) (k := 11) (v := (66 : Nat)) hr145 (by omega)
  have hr150 : Rn TA 70 (iw_Pr_init_29 w) := Rn_le (m := 70) hr146 (by omega)
  have hr155 : Rn TA 73 (iw_Pr_init_30 w) := rn_Bo_init (n := 70) hr150
  have hr156 : Rn TA 73 (iw_Pr_init_31 w) := Rn_up (c := 20) (k := 0) (v := (70 : Nat)) hr155 (by omega)
  have hr160 : Rn TA 74 (iw_Pr_init_31 w) := Rn_le (m := 74) hr156 (by omega)
  have hr165 : Rn TA 77 (iw_Pr_init_32 w) := rn_Bo_init (n := 74) hr160
  have hr166 : Rn TA 77 (iw_Pr_init_33 w) := Rn_up (c := 20) (k := 1) (v := (74 : Nat)) hr165 (by omega)
  have hr170 : Rn TA 78 (iw_Pr_init_33 w) := Rn_le (m := 78) hr166 (by omega)
  have hr175 : Rn TA 81 (iw_Pr_init_34 w) := rn_Bo_init (n := 78) hr170
  have hr176 : Rn TA 81 (iw_Pr_init_35 w) := Rn_up (c := 20) (k := 2) (v := (78 : Nat)) hr175 (by omega)
  have hr180 : Rn TA 82 (iw_Pr_init_35 w) := Rn_le (m := 82) hr176 (by omega)
  have hr185 : Rn TA 85 (iw_Pr_init_36 w) := rn_Bo_init (n := 82) hr180
  have hr186 : Rn TA 85 (iw_Pr_init_37 w) := Rn_up (c := 20) (k := 3) (v := (82 : Nat)) hr185 (by omega)
  have hr190 : Rn TA 86 (iw_Pr_init_37 w) := Rn_le (m := 86) hr186 (by omega)
  have hr195 : Rn TA 89 (iw_Pr_init_38 w) := rn_Bo_init (n := 86) hr190
  have hr196 : Rn TA 89 (iw_Pr_init_39 w) := Rn_up (c := 20) (k := 4) (v := (86 : Nat)) hr195 (by omega)
  have hr200 : Rn TA 90 (iw_Pr_init_39 w) := Rn_le (m := 90) hr196 (by omega)
  have hr205 : Rn TA 93 (iw_Pr_init_40 w) := rn_Bo_init (n := 90) hr200
  have hr206 : Rn TA 93 (iw_Pr_init_41 w) := Rn_up (c := 20) (k := 5) (v := (90 : Nat)) hr205 (by omega)
  exact hr206
theorem dfX5 : ∀ j, j < 7 → defaultValue (tyX5 j) = if TA.isref 6 j = true then .null else .int 0 := by decide +kernel
def i_Mo_init (w : World) (n : Nat) : World := (up (up (up (up (up (up (up (up (up (up (up (up (up (up (up w n 3 ((n + 1) : Nat)) n 4 ((n + 2) : Nat)) n 5 ((n + 3) : Nat)) n 6 ((n + 4) : Nat)) n 0 (2 : Nat)) (n + 1) 0 (-1)) (n + 1) 1 (-1)) (n + 1) 2 (-1)) (n + 1) 3 (-1)) (n + 1) 4 (-1)) (n + 1) 5 (-1)) (n + 1) 6 (-1)) (n + 1) 7 (-1)) (n + 1) 8 (-1)) (n + 1) 9 (-1))
abbrev rm_Mo_init : Room := { frames := 1, cells := 4, slots := 154, locals := 24 }
set_option maxRecDepth 100000 in
set_option maxHeartbeats 4000000 in
theorem c_Mo_init {S : EE} {l : Launch} {n : Nat} (hk : TA.kd n = 6) {ad : Nat → Nat} {w : World} (hI : Inj (tr TA n) (sad S ad)) (hz : Zn n w) (hr : Rn TA n w) (h2 : 2 ≤ n) : ConC TA S n (n + 4) l yX5_init (WS yX5_init cX5_init 3 none) rm_Mo_init [.ref (ad n), .ref (ad 2)] ad w (i_Mo_init w n) := by
  refine con_C (by decide +kernel) rfl (Nat.le_of_ble_eq_true rfl) (c1s_a (c1s_a c1s_0 (Nat.le_of_ble_eq_true rfl)) (Nat.le_of_ble_eq_true rfl)).1 hI TnA (by omega) ?_
  intro K H0 o g kc _ hret
  have h0 : n ≠ 0 := (TnA n (by omega)).1
  refine J_aldA_n o dX5_init_0 rfl ?_
  refine J_objinit o dX5_init_1 mw273 mw137 mw138 ⟨by decide, by decide⟩ ?_
  refine J_aldA_n o dX5_init_4 rfl ?_
  refine J_bipush o.1 dX5_init_5 (by decide) ?_
  refine J_newI (N := 10) (n := n) o TnA g kc dX5_init_7 mw158 (krA_6_1 hk) (Int.ofNat.inj ((zrA_6_1 hk) : ((TA.ln (n + 1) : Nat) : Int) = ((10 : Nat) : Int))) (by decide) hz hr rfl rfl ⟨Nat.le_of_ble_eq_true rfl, Nat.le_of_ble_eq_true rfl⟩ ?_
  intro K1 ad1 q1 sim1 o1 kc1 ag1 hq1 g1
  have f2 : ad1 n = (ad n) := ((ag1.1 n (by omega)).trans (rfl : ad n = ad n))
  have f3 : ad1 2 = (ad 2) := ((ag1.1 2 (by omega)).trans (rfl : ad 2 = ad 2))
  have agx1 := Ag.trans Ag.refl ag1 (by omega) (Nat.le_refl _)
  have simx1 := KSim.trans KSim.refl sim1
  have hz4 := Zn_le (m := (n + 1)) hz (by omega)
  have hr4 := Rn_le (m := (n + 1)) hr (by omega)
  refine J_t2 (rfa (S := S) f2 (by omega)) ?_
  refine J_t1 (rfa (S := S) hq1 (by omega)) ?_
  refine J_putF o1 g1 dX5_init_9 fpfX5_9 (tr_kd hk (by omega)) rfl rfl (by have := lt_A (krA_6_1 hk) (by decide); omega) (Or.inr ⟨_, rfl⟩) ?_
  have hz5 := Zn_up (c := n) (k := 3) (v := ((n + 1) : Nat)) hz4 (by omega)
  have hr5 := Rn_up (c := n) (k := 3) (v := ((n + 1) : Nat)) hr4 (by omega)
  refine J_aldA_n o1 dX5_init_12 rfl ?_
  refine J_bipush o1.1 dX5_init_13 (by decide) ?_
  refine J_newI (N := 48) (n := (n + 1)) o1 TnA g1 kc1 dX5_init_15 mw158 (krA_6_2 hk) (Int.ofNat.inj ((zrA_6_2 hk) : ((TA.ln (n + 2) : Nat) : Int) = ((48 : Nat) : Int))) (by decide) hz5 hr5 rfl rfl ⟨Nat.le_of_ble_eq_true rfl, Nat.le_of_ble_eq_true rfl⟩ ?_
  intro K6 ad6 q6 sim6 o6 kc6 ag6 hq6 g6
  have f7 : ad6 n = (ad n) := ((ag6.1 n (by omega)).trans f2)
  have f8 : ad6 2 = (ad 2) := ((ag6.1 2 (by omega)).trans f3)
  have agx6 := Ag.trans agx1 ag6 (by omega) (Nat.le_refl _)
  have simx6 := KSim.trans simx1 sim6
  have hz9 := Zn_le (m := (n + 2)) hz5 (by omega)
  have hr9 := Rn_le (m := (n + 2)) hr5 (by omega)
  refine J_t2 (rfa (S := S) f7 (by omega)) ?_
  refine J_t1 (rfa (S := S) hq6 (by omega)) ?_
  refine J_putF o6 g6 dX5_init_17 fpfX5_15 (tr_kd hk (by omega)) rfl rfl (by have := lt_A (krA_6_2 hk) (by decide); omega) (Or.inr ⟨_, rfl⟩) ?_
  have hz10 := Zn_up (c := n) (k := 4) (v := ((n + 2) : Nat)) hz9 (by omega)
  have hr10 := Rn_up (c := n) (k := 4) (v := ((n + 2) : Nat)) hr9 (by omega)
  refine J_aldA_n o6 dX5_init_20 rfl ?_
  refine J_bipush o6.1 dX5_init_21 (by decide) ?_
  refine J_newI (N := 48) (n := (n + 2)) o6 TnA g6 kc6 dX5_init_23 mw158 (krA_6_3 hk) (Int.ofNat.inj ((zrA_6_3 hk) : ((TA.ln (n + 3) : Nat) : Int) = ((48 : Nat) : Int))) (by decide) hz10 hr10 rfl rfl ⟨Nat.le_of_ble_eq_true rfl, Nat.le_of_ble_eq_true rfl⟩ ?_
  intro K11 ad11 q11 sim11 o11 kc11 ag11 hq11 g11
  have f12 : ad11 n = (ad n) := ((ag11.1 n (by omega)).trans f7)
  have f13 : ad11 2 = (ad 2) := ((ag11.1 2 (by omega)).trans f8)
  have agx11 := Ag.trans agx6 ag11 (by omega) (Nat.le_refl _)
  have simx11 := KSim.trans simx6 sim11
  have hz14 := Zn_le (m := (n + 3)) hz10 (by omega)
  have hr14 := Rn_le (m := (n + 3)) hr10 (by omega)
  refine J_t2 (rfa (S := S) f12 (by omega)) ?_
  refine J_t1 (rfa (S := S) hq11 (by omega)) ?_
  refine J_putF o11 g11 dX5_init_25 fpfX5_18 (tr_kd hk (by omega)) rfl rfl (by have := lt_A (krA_6_3 hk) (by decide); omega) (Or.inr ⟨_, rfl⟩) ?_
  have hz15 := Zn_up (c := n) (k := 5) (v := ((n + 3) : Nat)) hz14 (by omega)
  have hr15 := Rn_up (c := n) (k := 5) (v := ((n + 3) : Nat)) hr14 (by omega)
  refine J_aldA_n o11 dX5_init_28 rfl ?_
  refine J_bipush o11.1 dX5_init_29 (by decide) ?_
  refine J_newI (N := 48) (n := (n + 3)) o11 TnA g11 kc11 dX5_init_31 mw158 (krA_6_4 hk) (Int.ofNat.inj ((zrA_6_4 hk) : ((TA.ln (n + 4) : Nat) : Int) = ((48 : Nat) : Int))) (by decide) hz15 hr15 rfl rfl ⟨Nat.le_of_ble_eq_true rfl, Nat.le_of_ble_eq_true rfl⟩ ?_
  intro K16 ad16 q16 sim16 o16 kc16 ag16 hq16 g16
  have f17 : ad16 n = (ad n) := ((ag16.1 n (by omega)).trans f12)
  have f18 : ad16 2 = (ad 2) := ((ag16.1 2 (by omega)).trans f13)
  have agx16 := Ag.trans agx11 ag16 (by omega) (Nat.le_refl _)
  have simx16 := KSim.trans simx11 sim16
  have hz19 := Zn_le (m := (n + 4)) hz15 (by omega)
  have hr19 := Rn_le (m := (n + 4)) hr15 (by omega)
  refine J_t2 (rfa (S := S) f17 (by omega)) ?_
  refine J_t1 (rfa (S := S) hq16 (by omega)) ?_
  refine J_putF o16 g16 dX5_init_33 fpfX5_21 (tr_kd hk (by omega)) rfl rfl (by have := lt_A (krA_6_4 hk) (by decide); omega) (Or.inr ⟨_, rfl⟩) ?_
  have hz20 := Zn_up (c := n) (k := 6) (v := ((n + 4) : Nat)) hz19 (by omega)
  have hr20 := Rn_up (c := n) (k := 6) (v := ((n + 4) : Nat)) hr19 (by omega)
  refine J_aldA_n o16 dX5_init_36 rfl ?_
  refine J_aldA_n o16 dX5_init_37 rfl ?_
  refine J_t2 (rfa (S := S) f17 (by omega)) ?_
  refine J_t1 (rfa (S := S) f18 (by omega)) ?_
  refine J_putF o16 g16 dX5_init_38 fpfX5_24 (tr_kd hk (by omega)) rfl rfl (by have := lt_A kA_2 (by decide); omega) (Or.inl ⟨_, rfl⟩) ?_
  have hz21 := Zn_up (c := n) (k := 0) (v := (2 : Nat)) hz20 (by omega)
  have hr21 := Rn_up (c := n) (k := 0) (v := (2 : Nat)) hr20 (by omega)
  refine J_iconst o16.1 dX5_init_41 ?_
  refine J_istore_n o16.1 dX5_init_42 (Nat.le_of_ble_eq_true rfl) ?_
  refine J_foldL (L' := [some (.ref (ad n)), some (.ref (ad 2)), some (.int (ii 0))]) rfl ?_
  refine J_iload_n o16.1 dX5_init_43 rfl ?_
  refine J_bipush o16.1 dX5_init_44 (by decide) ?_
  refine J_icmp_ge 62 o16.1 dX5_init_46 (by decide) rl0 rl10 (fun c => absurd c (by decide)) (fun _ => ?_)
  refine J_aldA_n o16 dX5_init_49 rfl ?_
  refine J_t1 (rfa (S := S) f17 (by omega)) ?_
  refine J_getR o16.1 g16 dX5_init_50 flX5_9 (tr_kd hk (by omega)) rfl ?_
  refine J_t1 (congrArg (rf (sad S ad16).ad) (show _ = (n + 1) by simp [up])) ?_
  refine J_iload_n o16.1 dX5_init_53 rfl ?_
  refine J_iconst o16.1 dX5_init_54 ?_
  refine J_iast o16.1 g16 dX5_init_55 (tr_kd (krA_6_1 hk) (by omega)) rfl rl0 (zrA_6_1 hk) ⟨by decide, by decide⟩ rlm1 ?_
  have hz22 := Zn_up (c := (n + 1)) (k := 0) (v := (-1)) hz21 (by omega)
  have hr22 := Rn_up (c := (n + 1)) (k := 0) (v := (-1)) hr21 (by omega)
  refine J_iincC (y := 1) o16 dX5_init_56 rfl (by decide +kernel) ?_
  refine J_foldL (L' := [some (.ref (ad n)), some (.ref (ad 2)), some (.int (ii 1))]) rfl ?_
  refine J_goto 43 o16.1 dX5_init_59 (by decide) ?_
  refine J_iload_n o16.1 dX5_init_43 rfl ?_
  refine J_bipush o16.1 dX5_init_44 (by decide) ?_
  refine J_icmp_ge 62 o16.1 dX5_init_46 (by decide) rl1 rl10 (fun c => absurd c (by decide)) (fun _ => ?_)
  refine J_aldA_n o16 dX5_init_49 rfl ?_
  refine J_t1 (rfa (S := S) f17 (by omega)) ?_
  refine J_getR o16.1 g16 dX5_init_50 flX5_9 (tr_kd hk (by omega)) rfl ?_
  refine J_t1 (congrArg (rf (sad S ad16).ad) (show _ = (n + 1) by simp [up])) ?_
  refine J_iload_n o16.1 dX5_init_53 rfl ?_
  refine J_iconst o16.1 dX5_init_54 ?_
  refine J_iast o16.1 g16 dX5_init_55 (tr_kd (krA_6_1 hk) (by omega)) rfl rl1 (zrA_6_1 hk) ⟨by decide, by decide⟩ rlm1 ?_
  have hz23 := Zn_up (c := (n + 1)) (k := 1) (v := (-1)) hz22 (by omega)
  have hr23 := Rn_up (c := (n + 1)) (k := 1) (v := (-1)) hr22 (by omega)
  refine J_iincC (y := 2) o16 dX5_init_56 rfl (by decide +kernel) ?_
  refine J_foldL (L' := [some (.ref (ad n)), some (.ref (ad 2)), some (.int (ii 2))]) rfl ?_
  refine J_goto 43 o16.1 dX5_init_59 (by decide) ?_
  refine J_iload_n o16.1 dX5_init_43 rfl ?_
  refine J_bipush o16.1 dX5_init_44 (by decide) ?_
  refine J_icmp_ge 62 o16.1 dX5_init_46 (by decide) rl2 rl10 (fun c => absurd c (by decide)) (fun _ => ?_)
  refine J_aldA_n o16 dX5_init_49 rfl ?_
  refine J_t1 (rfa (S := S) f17 (by omega)) ?_
  refine J_getR o16.1 g16 dX5_init_50 flX5_9 (tr_kd hk (by omega)) rfl ?_
  refine J_t1 (congrArg (rf (sad S ad16).ad) (show _ = (n + 1) by simp [up])) ?_
  refine J_iload_n o16.1 dX5_init_53 rfl ?_
  refine J_iconst o16.1 dX5_init_54 ?_
  refine J_iast o16.1 g16 dX5_init_55 (tr_kd (krA_6_1 hk) (by omega)) rfl rl2 (zrA_6_1 hk) ⟨by decide, by decide⟩ rlm1 ?_
  have hz24 := Zn_up (c := (n + 1)) (k := 2) (v := (-1)) hz23 (by omega)
  have hr24 := Rn_up (c := (n + 1)) (k := 2) (v := (-1)) hr23 (by omega)
  refine J_iincC (y := 3) o16 dX5_init_56 rfl (by decide +kernel) ?_
  refine J_foldL (L' := [some (.ref (ad n)), some (.ref (ad 2)), some (.int (ii 3))]) rfl ?_
  refine J_goto 43 o16.1 dX5_init_59 (by decide) ?_
  refine J_iload_n o16.1 dX5_init_43 rfl ?_
  refine J_bipush o16.1 dX5_init_44 (by decide) ?_
  refine J_icmp_ge 62 o16.1 dX5_init_46 (by decide) rl3 rl10 (fun c => absurd c (by decide)) (fun _ => ?_)
  refine J_aldA_n o16 dX5_init_49 rfl ?_
  refine J_t1 (rfa (S := S) f17 (by omega)) ?_
  refine J_getR o16.1 g16 dX5_init_50 flX5_9 (tr_kd hk (by omega)) rfl ?_
  refine J_t1 (congrArg (rf (sad S ad16).ad) (show _ = (n + 1) by simp [up])) ?_
  refine J_iload_n o16.1 dX5_init_53 rfl ?_
  refine J_iconst o16.1 dX5_init_54 ?_
  refine J_iast o16.1 g16 dX5_init_55 (tr_kd (krA_6_1 hk) (by omega)) rfl rl3 (zrA_6_1 hk) ⟨by decide, by decide⟩ rlm1 ?_
  have hz25 := Zn_up (c := (n + 1)) (k := 3) (v := (-1)) hz24 (by omega)
  have hr25 := Rn_up (c := (n + 1)) (k := 3) (v := (-1)) hr24 (by omega)
  refine J_iincC (y := 4) o16 dX5_init_56 rfl (by decide +kernel) ?_
  refine J_foldL (L' := [some (.ref (ad n)), some (.ref (ad 2)), some (.int (ii 4))]) rfl ?_
  refine J_goto 43 o16.1 dX5_init_59 (by decide) ?_
  refine J_iload_n o16.1 dX5_init_43 rfl ?_
  refine J_bipush o16.1 dX5_init_44 (by decide) ?_
  refine J_icmp_ge 62 o16.1 dX5_init_46 (by decide) rl4 rl10 (fun c => absurd c (by decide)) (fun _ => ?_)
  refine J_aldA_n o16 dX5_init_49 rfl ?_
  refine J_t1 (rfa (S := S) f17 (by omega)) ?_
  refine J_getR o16.1 g16 dX5_init_50 flX5_9 (tr_kd hk (by omega)) rfl ?_
  refine J_t1 (congrArg (rf (sad S ad16).ad) (show _ = (n + 1) by simp [up])) ?_
  refine J_iload_n o16.1 dX5_init_53 rfl ?_
  refine J_iconst o16.1 dX5_init_54 ?_
  refine J_iast o16.1 g16 dX5_init_55 (tr_kd (krA_6_1 hk) (by omega)) rfl rl4 (zrA_6_1 hk) ⟨by decide, by decide⟩ rlm1 ?_
  have hz26 := Zn_up (c := (n + 1)) (k := 4) (v := (-1)) hz25 (by omega)
  have hr26 := Rn_up (c := (n + 1)) (k := 4) (v := (-1)) hr25 (by omega)
  refine J_iincC (y := 5) o16 dX5_init_56 rfl (by decide +kernel) ?_
  refine J_foldL (L' := [some (.ref (ad n)), some (.ref (ad 2)), some (.int (ii 5))]) rfl ?_
  refine J_goto 43 o16.1 dX5_init_59 (by decide) ?_
  refine J_iload_n o16.1 dX5_init_43 rfl ?_
  refine J_bipush o16.1 dX5_init_44 (by decide) ?_
  refine J_icmp_ge 62 o16.1 dX5_init_46 (by decide) rl5 rl10 (fun c => absurd c (by decide)) (fun _ => ?_)
  refine J_aldA_n o16 dX5_init_49 rfl ?_
  refine J_t1 (rfa (S := S) f17 (by omega)) ?_
  refine J_getR o16.1 g16 dX5_init_50 flX5_9 (tr_kd hk (by omega)) rfl ?_
  refine J_t1 (congrArg (rf (sad S ad16).ad) (show _ = (n + 1) by simp [up])) ?_
  refine J_iload_n o16.1 dX5_init_53 rfl ?_
  refine J_iconst o16.1 dX5_init_54 ?_
  refine J_iast o16.1 g16 dX5_init_55 (tr_kd (krA_6_1 hk) (by omega)) rfl rl5 (zrA_6_1 hk) ⟨by decide, by decide⟩ rlm1 ?_
  have hz27 := Zn_up (c := (n + 1)) (k := 5) (v := (-1)) hz26 (by omega)
  have hr27 := Rn_up (c := (n + 1)) (k := 5) (v := (-1)) hr26 (by omega)
  refine J_iincC (y := 6) o16 dX5_init_56 rfl (by decide +kernel) ?_
  refine J_foldL (L' := [some (.ref (ad n)), some (.ref (ad 2)), some (.int (ii 6))]) rfl ?_
  refine J_goto 43 o16.1 dX5_init_59 (by decide) ?_
  refine J_iload_n o16.1 dX5_init_43 rfl ?_
  refine J_bipush o16.1 dX5_init_44 (by decide) ?_
  refine J_icmp_ge 62 o16.1 dX5_init_46 (by decide) rl6 rl10 (fun c => absurd c (by decide)) (fun _ => ?_)
  refine J_aldA_n o16 dX5_init_49 rfl ?_
  refine J_t1 (rfa (S := S) f17 (by omega)) ?_
  refine J_getR o16.1 g16 dX5_init_50 flX5_9 (tr_kd hk (by omega)) rfl ?_
  refine J_t1 (congrArg (rf (sad S ad16).ad) (show _ = (n + 1) by simp [up])) ?_
  refine J_iload_n o16.1 dX5_init_53 rfl ?_
  refine J_iconst o16.1 dX5_init_54 ?_
  refine J_iast o16.1 g16 dX5_init_55 (tr_kd (krA_6_1 hk) (by omega)) rfl rl6 (zrA_6_1 hk) ⟨by decide, by decide⟩ rlm1 ?_
  have hz28 := Zn_up (c := (n + 1)) (k := 6) (v := (-1)) hz27 (by omega)
  have hr28 := Rn_up (c := (n + 1)) (k := 6) (v := (-1)) hr27 (by omega)
  refine J_iincC (y := 7) o16 dX5_init_56 rfl (by decide +kernel) ?_
  refine J_foldL (L' := [some (.ref (ad n)), some (.ref (ad 2)), some (.int (ii 7))]) rfl ?_
  refine J_goto 43 o16.1 dX5_init_59 (by decide) ?_
  refine J_iload_n o16.1 dX5_init_43 rfl ?_
  refine J_bipush o16.1 dX5_init_44 (by decide) ?_
  refine J_icmp_ge 62 o16.1 dX5_init_46 (by decide) rl7 rl10 (fun c => absurd c (by decide)) (fun _ => ?_)
  refine J_aldA_n o16 dX5_init_49 rfl ?_
  refine J_t1 (rfa (S := S) f17 (by omega)) ?_
  refine J_getR o16.1 g16 dX5_init_50 flX5_9 (tr_kd hk (by omega)) rfl ?_
  refine J_t1 (congrArg (rf (sad S ad16).ad) (show _ = (n + 1) by simp [up])) ?_
  refine J_iload_n o16.1 dX5_init_53 rfl ?_
  refine J_iconst o16.1 dX5_init_54 ?_
  refine J_iast o16.1 g16 dX5_init_55 (tr_kd (krA_6_1 hk) (by omega)) rfl rl7 (zrA_6_1 hk) ⟨by decide, by decide⟩ rlm1 ?_
  have hz29 := Zn_up (c := (n + 1)) (k := 7) (v := (-1)) hz28 (by omega)
  have hr29 := Rn_up (c := (n + 1)) (k := 7) (v := (-1)) hr28 (by omega)
  refine J_iincC (y := 8) o16 dX5_init_56 rfl (by decide +kernel) ?_
  refine J_foldL (L' := [some (.ref (ad n)), some (.ref (ad 2)), some (.int (ii 8))]) rfl ?_
  refine J_goto 43 o16.1 dX5_init_59 (by decide) ?_
  refine J_iload_n o16.1 dX5_init_43 rfl ?_
  refine J_bipush o16.1 dX5_init_44 (by decide) ?_
  refine J_icmp_ge 62 o16.1 dX5_init_46 (by decide) rl8 rl10 (fun c => absurd c (by decide)) (fun _ => ?_)
  refine J_aldA_n o16 dX5_init_49 rfl ?_
  refine J_t1 (rfa (S := S) f17 (by omega)) ?_
  refine J_getR o16.1 g16 dX5_init_50 flX5_9 (tr_kd hk (by omega)) rfl ?_
  refine J_t1 (congrArg (rf (sad S ad16).ad) (show _ = (n + 1) by simp [up])) ?_
  refine J_iload_n o16.1 dX5_init_53 rfl ?_
  refine J_iconst o16.1 dX5_init_54 ?_
  refine J_iast o16.1 g16 dX5_init_55 (tr_kd (krA_6_1 hk) (by omega)) rfl rl8 (zrA_6_1 hk) ⟨by decide, by decide⟩ rlm1 ?_
  have hz30 := Zn_up (c := (n + 1)) (k := 8) (v := (-1)) hz29 (by omega)
  have hr30 := Rn_up (c := (n + 1)) (k := 8) (v := (-1)) hr29 (by omega)
  refine J_iincC (y := 9) o16 dX5_init_56 rfl (by decide +kernel) ?_
  refine J_foldL (L' := [some (.ref (ad n)), some (.ref (ad 2)), some (.int (ii 9))]) rfl ?_
  refine J_goto 43 o16.1 dX5_init_59 (by decide) ?_
  refine J_iload_n o16.1 dX5_init_43 rfl ?_
  refine J_bipush o16.1 dX5_init_44 (by decide) ?_
  refine J_icmp_ge 62 o16.1 dX5_init_46 (by decide) rl9 rl10 (fun c => absurd c (by decide)) (fun _ => ?_)
  refine J_aldA_n o16 dX5_init_49 rfl ?_
  refine J_t1 (rfa (S := S) f17 (by omega)) ?_
  refine J_getR o16.1 g16 dX5_init_50 flX5_9 (tr_kd hk (by omega)) rfl ?_
  refine J_t1 (congrArg (rf (sad S ad16).ad) (show _ = (n + 1) by simp [up])) ?_
  refine J_iload_n o16.1 dX5_init_53 rfl ?_
  refine J_iconst o16.1 dX5_init_54 ?_
  refine J_iast o16.1 g16 dX5_init_55 (tr_kd (krA_6_1 hk) (by omega)) rfl rl9 (zrA_6_1 hk) ⟨by decide, by decide⟩ rlm1 ?_
  have hz31 := Zn_up (c := (n + 1)) (k := 9) (v := (-1)) hz30 (by omega)
  have hr31 := Rn_up (c := (n + 1)) (k := 9) (v := (-1)) hr30 (by omega)
  refine J_iincC (y := 10) o16 dX5_init_56 rfl (by decide +kernel) ?_
  refine J_foldL (L' := [some (.ref (ad n)), some (.ref (ad 2)), some (.int (ii 10))]) rfl ?_
  refine J_goto 43 o16.1 dX5_init_59 (by decide) ?_
  refine J_iload_n o16.1 dX5_init_43 rfl ?_
  refine J_bipush o16.1 dX5_init_44 (by decide) ?_
  refine J_icmp_ge 62 o16.1 dX5_init_46 (by decide) rl10 rl10 (fun _ => ?_) (fun c => absurd (by decide) c)
  exact hret _ _ _ _ _ _ simx16 kc16 ⟨Nat.le_of_ble_eq_true rfl, Nat.le_of_ble_eq_true rfl⟩ agx16 g16 dX5_init_62
theorem z_Mo_init {n : Nat} {w : World} (hz : Zn n w) : Zn (n + 4) (i_Mo_init w n) := by
  have hz4 := Zn_le (m := (n + 1)) hz (by omega)
  have hz5 := Zn_up (c := n) (k := 3) (v := ((n + 1) : Nat)) hz4 (by omega)
  have hz9 := Zn_le (m := (n + 2)) hz5 (by omega)
  have hz10 := Zn_up (c := n) (k := 4) (v := ((n + 2) : Nat)) hz9 (by omega)
  have hz14 := Zn_le (m := (n + 3)) hz10 (by omega)
  have hz15 := Zn_up (c := n) (k := 5) (v := ((n + 3) : Nat)) hz14 (by omega)
  have hz19 := Zn_le (m := (n + 4)) hz15 (by omega)
  have hz20 := Zn_up (c := n) (k := 6) (v := ((n + 4) : Nat)) hz19 (by omega)
  have hz21 := Zn_up (c := n) (k := 0) (v := (2 : Nat)) hz20 (by omega)
  have hz22 := Zn_up (c := (n + 1)) (k := 0) (v := (-1)) hz21 (by omega)
  have hz23 := Zn_up (c := (n + 1)) (k := 1) (v := (-1)) hz22 (by omega)
  have hz24 := Zn_up (c := (n + 1)) (k := 2) (v := (-1)) hz23 (by omega)
  have hz25 := Zn_up (c := (n + 1)) (k := 3) (v := (-1)) hz24 (by omega)
  have hz26 := Zn_up (c := (n + 1)) (k := 4) (v := (-1)) hz25 (by omega)
  have hz27 := Zn_up (c := (n + 1)) (k := 5) (v := (-1)) hz26 (by omega)
  have hz28 := Zn_up (c := (n + 1)) (k := 6) (v := (-1)) hz27 (by omega)
  have hz29 := Zn_up (c := (n + 1)) (k := 7) (v := (-1)) hz28 (by omega)
  have hz30 := Zn_up (c := (n + 1)) (k := 8) (v := (-1)) hz29 (by omega)
  have hz31 := Zn_up (c := (n + 1)) (k := 9) (v := (-1)) hz30 (by omega)
  exact hz31
theorem rn_Mo_init {n : Nat} {w : World} (hr : Rn TA n w) (h2 : 2 ≤ n) : Rn TA (n + 4) (i_Mo_init w n) := by
  have hr4 := Rn_le (m := (n + 1)) hr (by omega)
  have hr5 := Rn_up (c := n) (k := 3) (v := ((n + 1) : Nat)) hr4 (by omega)
  have hr9 := Rn_le (m := (n + 2)) hr5 (by omega)
  have hr10 := Rn_up (c := n) (k := 4) (v := ((n + 2) : Nat)) hr9 (by omega)
  have hr14 := Rn_le (m := (n + 3)) hr10 (by omega)
  have hr15 := Rn_up (c := n) (k := 5) (v := ((n + 3) : Nat)) hr14 (by omega)
  have hr19 := Rn_le (m := (n + 4)) hr15 (by omega)
  have hr20 := Rn_up (c := n) (k := 6) (v := ((n + 4) : Nat)) hr19 (by omega)
  have hr21 := Rn_up (c := n) (k := 0) (v := (2 : Nat)) hr20 (by omega)
  have hr22 := Rn_up (c := (n + 1)) (k := 0) (v := (-1)) hr21 (by omega)
  have hr23 := Rn_up (c := (n + 1)) (k := 1) (v := (-1)) hr22 (by omega)
  have hr24 := Rn_up (c := (n + 1)) (k := 2) (v := (-1)) hr23 (by omega)
  have hr25 := Rn_up (c := (n + 1)) (k := 3) (v := (-1)) hr24 (by omega)
  have hr26 := Rn_up (c := (n + 1)) (k := 4) (v := (-1)) hr25 (by omega)
  have hr27 := Rn_up (c := (n + 1)) (k := 5) (v := (-1)) hr26 (by omega)
  have hr28 := Rn_up (c := (n + 1)) (k := 6) (v := (-1)) hr27 (by omega)
  have hr29 := Rn_up (c := (n + 1)) (k := 7) (v := (-1)) hr28 (by omega)
  have hr30 := Rn_up (c := (n + 1)) (k := 8) (v := (-1)) hr29 (by omega)
  have hr31 := Rn_up (c := (n + 1)) (k := 9) (v := (-1)) hr30 (by omega)
  exact hr31
theorem fr_Mo_init {w : World} {n c k : Nat} (h : c ≠ n) (h1 : c ≠ n + 1) : i_Mo_init w n c k = w c k := by
  unfold i_Mo_init
  simp [up, h, h1]
theorem dfX9 : ∀ j, j < 11 → defaultValue (tyX9 j) = if TA.isref 10 j = true then .null else .int 0 := by decide +kernel
def i_Wa_init (w : World) : World := (up (up (up (up (up (up (up (up w 103 8 (104 : Nat)) 103 9 (105 : Nat)) 103 10 (106 : Nat)) 103 0 (2 : Nat)) 103 1 (94 : Nat)) 103 2 (98 : Nat)) 103 6 (-1)) 103 4 (-1))
abbrev rm_Wa_init : Room := { frames := 1, cells := 3, slots := 18, locals := 24 }
set_option maxRecDepth 100000 in
set_option maxHeartbeats 4000000 in
theorem c_Wa_init {S : EE} {l : Launch} {ad : Nat → Nat} {w : World} (hI : Inj (tr TA 103) (sad S ad)) (hz : Zn 103 w) (hr : Rn TA 103 w) : ConC TA S 103 106 l yX9_init (WS yX9_init cX9_init 4 none) rm_Wa_init [.ref (ad 103), .ref (ad 2), .ref (ad 94), .ref (ad 98)] ad w (i_Wa_init w) := by
  refine con_C (by decide +kernel) rfl (Nat.le_of_ble_eq_true rfl) (c1s_a (c1s_a (c1s_a (c1s_a c1s_0 (Nat.le_of_ble_eq_true rfl)) (Nat.le_of_ble_eq_true rfl)) (Nat.le_of_ble_eq_true rfl)) (Nat.le_of_ble_eq_true rfl)).1 hI TnA (by omega) ?_
  intro K H0 o g kc _ hret
  refine J_aldA_n o dX9_init_0 rfl ?_
  refine J_objinit o dX9_init_1 mw303 mw137 mw138 ⟨by decide, by decide⟩ ?_
  refine J_aldA_n o dX9_init_4 rfl ?_
  refine J_bipush o.1 dX9_init_5 (by decide) ?_
  refine J_newI (N := 8) (n := 103) o TnA g kc dX9_init_7 mw158 kA_104 (Int.ofNat.inj (zA_104 : ((TA.ln 104 : Nat) : Int) = ((8 : Nat) : Int))) (by decide) hz hr rfl rfl ⟨Nat.le_of_ble_eq_true rfl, Nat.le_of_ble_eq_true rfl⟩ ?_
  intro K1 ad1 q1 sim1 o1 kc1 ag1 hq1 g1
  have f2 : ad1 103 = (ad 103) := ((ag1.1 103 (by omega)).trans (rfl : ad 103 = ad 103))
  have f3 : ad1 2 = (ad 2) := ((ag1.1 2 (by omega)).trans (rfl : ad 2 = ad 2))
  have f4 : ad1 94 = (ad 94) := ((ag1.1 94 (by omega)).trans (rfl : ad 94 = ad 94))
  have f5 : ad1 98 = (ad 98) := ((ag1.1 98 (by omega)).trans (rfl : ad 98 = ad 98))
  have agx1 := Ag.trans Ag.refl ag1 (by omega) (Nat.le_refl _)
  have simx1 := KSim.trans KSim.refl sim1
  have hz6 := Zn_le (m := 104) hz (by omega)
  have hr6 := Rn_le (m := 104) hr (by omega)
  refine J_t2 (rfa (S := S) f2 (by omega)) ?_
  refine J_t1 (rfa (S := S) hq1 (by omega)) ?_
  refine J_putF o1 g1 dX9_init_9 fpfX9_9 (tr_kd kA_103 (by omega)) rfl rfl (by have := lt_A kA_104 (by decide); omega) (Or.inr ⟨_, rfl⟩) ?_
  have hz7 := Zn_up (c := 103) (k := 8) (v := (104 : Nat)) hz6 (by omega)
  have hr7 := Rn_up (c := 103) (k := 8) (v := (104 : Nat)) hr6 (by omega)
  refine J_aldA_n o1 dX9_init_12 rfl ?_
  refine J_iconst o1.1 dX9_init_13 ?_
  refine J_newI (N := 5) (n := 104) o1 TnA g1 kc1 dX9_init_14 mw158 kA_105 (Int.ofNat.inj (zA_105 : ((TA.ln 105 : Nat) : Int) = ((5 : Nat) : Int))) (by decide) hz7 hr7 rfl rfl ⟨Nat.le_of_ble_eq_true rfl, Nat.le_of_ble_eq_true rfl⟩ ?_
  intro K8 ad8 q8 sim8 o8 kc8 ag8 hq8 g8
  have f9 : ad8 103 = (ad 103) := ((ag8.1 103 (by omega)).trans f2)
  have f10 : ad8 2 = (ad 2) := ((ag8.1 2 (by omega)).trans f3)
  have f11 : ad8 94 = (ad 94) := ((ag8.1 94 (by omega)).trans f4)
  have f12 : ad8 98 = (ad 98) := ((ag8.1 98 (by omega)).trans f5)
  have agx8 := Ag.trans agx1 ag8 (by omega) (Nat.le_refl _)
  have simx8 := KSim.trans simx1 sim8
  have hz13 := Zn_le (m := 105) hz7 (by omega)
  have hr13 := Rn_le (m := 105) hr7 (by omega)
  refine J_t2 (rfa (S := S) f9 (by omega)) ?_
  refine J_t1 (rfa (S := S) hq8 (by omega)) ?_
  refine J_putF o8 g8 dX9_init_16 fpfX9_15 (tr_kd kA_103 (by omega)) rfl rfl (by have := lt_A kA_105 (by decide); omega) (Or.inr ⟨_, rfl⟩) ?_
  have hz14 := Zn_up (c := 103) (k := 9) (v := (105 : Nat)) hz13 (by omega)
  have hr14 := Rn_up (c := 103) (k := 9) (v := (105 : Nat)) hr13 (by omega)
  refine J_aldA_n o8 dX9_init_19 rfl ?_
  refine J_iconst o8.1 dX9_init_20 ?_
  refine J_newI (N := 5) (n := 105) o8 TnA g8 kc8 dX9_init_21 mw158 kA_106 (Int.ofNat.inj (zA_106 : ((TA.ln 106 : Nat) : Int) = ((5 : Nat) : Int))) (by decide) hz14 hr14 rfl rfl ⟨Nat.le_of_ble_eq_true rfl, Nat.le_of_ble_eq_true rfl⟩ ?_
  intro K15 ad15 q15 sim15 o15 kc15 ag15 hq15 g15
  have f16 : ad15 103 = (ad 103) := ((ag15.1 103 (by omega)).trans f9)
  have f17 : ad15 2 = (ad 2) := ((ag15.1 2 (by omega)).trans f10)
  have f18 : ad15 94 = (ad 94) := ((ag15.1 94 (by omega)).trans f11)
  have f19 : ad15 98 = (ad 98) := ((ag15.1 98 (by omega)).trans f12)
  have agx15 := Ag.trans agx8 ag15 (by omega) (Nat.le_refl _)
  have simx15 := KSim.trans simx8 sim15
  have hz20 := Zn_le (m := 106) hz14 (by omega)
  have hr20 := Rn_le (m := 106) hr14 (by omega)
  refine J_t2 (rfa (S := S) f16 (by omega)) ?_
  refine J_t1 (rfa (S := S) hq15 (by omega)) ?_
  refine J_putF o15 g15 dX9_init_23 fpfX9_18 (tr_kd kA_103 (by omega)) rfl rfl (by have := lt_A kA_106 (by decide); omega) (Or.inr ⟨_, rfl⟩) ?_
  have hz21 := Zn_up (c := 103) (k := 10) (v := (106 : Nat)) hz20 (by omega)
  have hr21 := Rn_up (c := 103) (k := 10) (v := (106 : Nat)) hr20 (by omega)
  refine J_aldA_n o15 dX9_init_26 rfl ?_
  refine J_aldA_n o15 dX9_init_27 rfl ?_
  refine J_t2 (rfa (S := S) f16 (by omega)) ?_
  refine J_t1 (rfa (S := S) f17 (by omega)) ?_
  refine J_putF o15 g15 dX9_init_28 fpfX9_21 (tr_kd kA_103 (by omega)) rfl rfl (by have := lt_A kA_2 (by decide); omega) (Or.inl ⟨_, rfl⟩) ?_
  have hz22 := Zn_up (c := 103) (k := 0) (v := (2 : Nat)) hz21 (by omega)
  have hr22 := Rn_up (c := 103) (k := 0) (v := (2 : Nat)) hr21 (by omega)
  refine J_aldA_n o15 dX9_init_31 rfl ?_
  refine J_aldA_n o15 dX9_init_32 rfl ?_
  refine J_t2 (rfa (S := S) f16 (by omega)) ?_
  refine J_t1 (rfa (S := S) f18 (by omega)) ?_
  refine J_putR o15.1 g15 dX9_init_33 fpX9_25 (tr_kd kA_103 (by omega)) rfl rfl (by have := lt_A kA_94 (by decide); omega) ?_
  have hz23 := Zn_up (c := 103) (k := 1) (v := (94 : Nat)) hz22 (by omega)
  have hr23 := Rn_up (c := 103) (k := 1) (v := (94 : Nat)) hr22 (by omega)
  refine J_aldA_n o15 dX9_init_36 rfl ?_
  refine J_aldA_n o15 dX9_init_37 rfl ?_
  refine J_t2 (rfa (S := S) f16 (by omega)) ?_
  refine J_t1 (rfa (S := S) f19 (by omega)) ?_
  refine J_putR o15.1 g15 dX9_init_38 fpX9_29 (tr_kd kA_103 (by omega)) rfl rfl (by have := lt_A kA_98 (by decide); omega) ?_
  have hz24 := Zn_up (c := 103) (k := 2) (v := (98 : Nat)) hz23 (by omega)
  have hr24 := Rn_up (c := 103) (k := 2) (v := (98 : Nat)) hr23 (by omega)
  refine J_aldA_n o15 dX9_init_41 rfl ?_
  refine J_iconst o15.1 dX9_init_42 ?_
  refine J_t2 (rfa (S := S) f16 (by omega)) ?_
  refine J_putI o15.1 g15 dX9_init_43 fpX9_33 (tr_kd kA_103 (by omega)) rfl rfl rlm1 ?_
  have hz25 := Zn_up (c := 103) (k := 6) (v := (-1)) hz24 (by omega)
  have hr25 := Rn_up (c := 103) (k := 6) (v := (-1)) hr24 (by omega)
  refine J_aldA_n o15 dX9_init_46 rfl ?_
  refine J_iconst o15.1 dX9_init_47 ?_
  refine J_t2 (rfa (S := S) f16 (by omega)) ?_
  refine J_putI o15.1 g15 dX9_init_48 fpX9_37 (tr_kd kA_103 (by omega)) rfl rfl rlm1 ?_
  have hz26 := Zn_up (c := 103) (k := 4) (v := (-1)) hz25 (by omega)
  have hr26 := Rn_up (c := 103) (k := 4) (v := (-1)) hr25 (by omega)
  exact hret _ _ _ _ _ _ simx15 kc15 ⟨Nat.le_of_ble_eq_true rfl, Nat.le_of_ble_eq_true rfl⟩ agx15 g15 dX9_init_51
theorem z_Wa_init {w : World} (hz : Zn 103 w) : Zn 106 (i_Wa_init w) := by
  have hz6 := Zn_le (m := 104) hz (by omega)
  have hz7 := Zn_up (c := 103) (k := 8) (v := (104 : Nat)) hz6 (by omega)
  have hz13 := Zn_le (m := 105) hz7 (by omega)
  have hz14 := Zn_up (c := 103) (k := 9) (v := (105 : Nat)) hz13 (by omega)
  have hz20 := Zn_le (m := 106) hz14 (by omega)
  have hz21 := Zn_up (c := 103) (k := 10) (v := (106 : Nat)) hz20 (by omega)
  have hz22 := Zn_up (c := 103) (k := 0) (v := (2 : Nat)) hz21 (by omega)
  have hz23 := Zn_up (c := 103) (k := 1) (v := (94 : Nat)) hz22 (by omega)
  have hz24 := Zn_up (c := 103) (k := 2) (v := (98 : Nat)) hz23 (by omega)
  have hz25 := Zn_up (c := 103) (k := 6) (v := (-1)) hz24 (by omega)
  have hz26 := Zn_up (c := 103) (k := 4) (v := (-1)) hz25 (by omega)
  exact hz26
theorem rn_Wa_init {w : World} (hr : Rn TA 103 w) : Rn TA 106 (i_Wa_init w) := by
  have hr6 := Rn_le (m := 104) hr (by omega)
  have hr7 := Rn_up (c := 103) (k := 8) (v := (104 : Nat)) hr6 (by omega)
  have hr13 := Rn_le (m := 105) hr7 (by omega)
  have hr14 := Rn_up (c := 103) (k := 9) (v := (105 : Nat)) hr13 (by omega)
  have hr20 := Rn_le (m := 106) hr14 (by omega)
  have hr21 := Rn_up (c := 103) (k := 10) (v := (106 : Nat)) hr20 (by omega)
  have hr22 := Rn_up (c := 103) (k := 0) (v := (2 : Nat)) hr21 (by omega)
  have hr23 := Rn_up (c := 103) (k := 1) (v := (94 : Nat)) hr22 (by omega)
  have hr24 := Rn_up (c := 103) (k := 2) (v := (98 : Nat)) hr23 (by omega)
  have hr25 := Rn_up (c := 103) (k := 6) (v := (-1)) hr24 (by omega)
  have hr26 := Rn_up (c := 103) (k := 4) (v := (-1)) hr25 (by omega)
  exact hr26
theorem dfX4 : ∀ j, j < 3 → defaultValue (tyX4 j) = if TA.isref 5 j = true then .null else .int 0 := by decide +kernel
def i_Mi_init (w : World) : World := (up (up (up w 107 0 (7 : Nat)) 107 1 (14 : Nat)) 107 2 (103 : Nat))
abbrev rm_Mi_init : Room := { frames := 1, cells := 0, slots := 0, locals := 24 }
set_option maxRecDepth 100000 in
set_option maxHeartbeats 4000000 in
theorem c_Mi_init {S : EE} {l : Launch} {ad : Nat → Nat} {w : World} (hI : Inj (tr TA 107) (sad S ad)) (hz : Zn 107 w) (hr : Rn TA 107 w) : ConC TA S 107 107 l yX4_init (WS yX4_init cX4_init 4 none) rm_Mi_init [.ref (ad 107), .ref (ad 7), .ref (ad 14), .ref (ad 103)] ad w (i_Mi_init w) := by
  refine con_C (by decide +kernel) rfl (Nat.le_of_ble_eq_true rfl) (c1s_a (c1s_a (c1s_a (c1s_a c1s_0 (Nat.le_of_ble_eq_true rfl)) (Nat.le_of_ble_eq_true rfl)) (Nat.le_of_ble_eq_true rfl)) (Nat.le_of_ble_eq_true rfl)).1 hI TnA (by omega) ?_
  intro K H0 o g kc _ hret
  refine J_aldA_n o dX4_init_0 rfl ?_
  refine J_objinit o dX4_init_1 mw343 mw137 mw138 ⟨by decide, by decide⟩ ?_
  refine J_aldA_n o dX4_init_4 rfl ?_
  refine J_aldA_n o dX4_init_5 rfl ?_
  refine J_t2 (rfa (S := S) (rfl : ad 107 = ad 107) (by omega)) ?_
  refine J_t1 (rfa (S := S) (rfl : ad 7 = ad 7) (by omega)) ?_
  refine J_putF o g dX4_init_6 fpfX4_9 (tr_kd kA_107 (by omega)) rfl rfl (by have := lt_A kA_7 (by decide); omega) (Or.inl ⟨_, rfl⟩) ?_
  have hz1 := Zn_up (c := 107) (k := 0) (v := (7 : Nat)) hz (by omega)
  have hr1 := Rn_up (c := 107) (k := 0) (v := (7 : Nat)) hr (by omega)
  refine J_aldA_n o dX4_init_9 rfl ?_
  refine J_aldA_n o dX4_init_10 rfl ?_
  refine J_t2 (rfa (S := S) (rfl : ad 107 = ad 107) (by omega)) ?_
  refine J_t1 (rfa (S := S) (rfl : ad 14 = ad 14) (by omega)) ?_
  refine J_putF o g dX4_init_11 fpfX4_15 (tr_kd kA_107 (by omega)) rfl rfl (by have := lt_A kA_14 (by decide); omega) (Or.inl ⟨_, rfl⟩) ?_
  have hz2 := Zn_up (c := 107) (k := 1) (v := (14 : Nat)) hz1 (by omega)
  have hr2 := Rn_up (c := 107) (k := 1) (v := (14 : Nat)) hr1 (by omega)
  refine J_aldA_n o dX4_init_14 rfl ?_
  refine J_aldA_n o dX4_init_15 rfl ?_
  refine J_t2 (rfa (S := S) (rfl : ad 107 = ad 107) (by omega)) ?_
  refine J_t1 (rfa (S := S) (rfl : ad 103 = ad 103) (by omega)) ?_
  refine J_putF o g dX4_init_16 fpfX4_19 (tr_kd kA_107 (by omega)) rfl rfl (by have := lt_A kA_103 (by decide); omega) (Or.inl ⟨_, rfl⟩) ?_
  have hz3 := Zn_up (c := 107) (k := 2) (v := (103 : Nat)) hz2 (by omega)
  have hr3 := Rn_up (c := 107) (k := 2) (v := (103 : Nat)) hr2 (by omega)
  exact hret _ _ _ _ _ _ KSim.refl kc ⟨Nat.le_of_ble_eq_true rfl, Nat.le_of_ble_eq_true rfl⟩ Ag.refl g dX4_init_19
theorem z_Mi_init {w : World} (hz : Zn 107 w) : Zn 107 (i_Mi_init w) := by
  have hz1 := Zn_up (c := 107) (k := 0) (v := (7 : Nat)) hz (by omega)
  have hz2 := Zn_up (c := 107) (k := 1) (v := (14 : Nat)) hz1 (by omega)
  have hz3 := Zn_up (c := 107) (k := 2) (v := (103 : Nat)) hz2 (by omega)
  exact hz3
theorem rn_Mi_init {w : World} (hr : Rn TA 107 w) : Rn TA 107 (i_Mi_init w) := by
  have hr1 := Rn_up (c := 107) (k := 0) (v := (7 : Nat)) hr (by omega)
  have hr2 := Rn_up (c := 107) (k := 1) (v := (14 : Nat)) hr1 (by omega)
  have hr3 := Rn_up (c := 107) (k := 2) (v := (103 : Nat)) hr2 (by omega)
  exact hr3
theorem dfX1 : ∀ j, j < 2 → defaultValue (tyX1 j) = if TA.isref 2 j = true then .null else .int 0 := by decide +kernel
def i_Co_init (w : World) : World := (up w 150 1 (151 : Nat))
abbrev rm_Co_init : Room := { frames := 1, cells := 1, slots := 48, locals := 24 }
set_option maxRecDepth 100000 in
set_option maxHeartbeats 4000000 in
theorem c_Co_init {S : EE} {l : Launch} {ad : Nat → Nat} {w : World} (hI : Inj (tr TA 150) (sad S ad)) (hz : Zn 150 w) (hr : Rn TA 150 w) : ConC TA S 150 151 l yX1_init (WS yX1_init cX1_init 1 none) rm_Co_init [.ref (ad 150)] ad w (i_Co_init w) := by
  refine con_C (by decide +kernel) rfl (Nat.le_of_ble_eq_true rfl) (c1s_a c1s_0 (Nat.le_of_ble_eq_true rfl)).1 hI TnA (by omega) ?_
  intro K H0 o g kc _ hret
  refine J_aldA_n o dX1_init_0 rfl ?_
  refine J_objinit o dX1_init_1 mw360 mw137 mw138 ⟨by decide, by decide⟩ ?_
  refine J_aldA_n o dX1_init_4 rfl ?_
  refine J_bipush o.1 dX1_init_5 (by decide) ?_
  refine J_newI (N := 48) (n := 150) o TnA g kc dX1_init_7 mw158 kA_151 (Int.ofNat.inj (zA_151 : ((TA.ln 151 : Nat) : Int) = ((48 : Nat) : Int))) (by decide) hz hr rfl rfl ⟨Nat.le_of_ble_eq_true rfl, Nat.le_of_ble_eq_true rfl⟩ ?_
  intro K1 ad1 q1 sim1 o1 kc1 ag1 hq1 g1
  have f2 : ad1 150 = (ad 150) := ((ag1.1 150 (by omega)).trans (rfl : ad 150 = ad 150))
  have agx1 := Ag.trans Ag.refl ag1 (by omega) (Nat.le_refl _)
  have simx1 := KSim.trans KSim.refl sim1
  have hz3 := Zn_le (m := 151) hz (by omega)
  have hr3 := Rn_le (m := 151) hr (by omega)
  refine J_t2 (rfa (S := S) f2 (by omega)) ?_
  refine J_t1 (rfa (S := S) hq1 (by omega)) ?_
  refine J_putF o1 g1 dX1_init_9 fpfX1_9 (tr_kd kA_150 (by omega)) rfl rfl (by have := lt_A kA_151 (by decide); omega) (Or.inr ⟨_, rfl⟩) ?_
  have hz4 := Zn_up (c := 150) (k := 1) (v := (151 : Nat)) hz3 (by omega)
  have hr4 := Rn_up (c := 150) (k := 1) (v := (151 : Nat)) hr3 (by omega)
  exact hret _ _ _ _ _ _ simx1 kc1 ⟨Nat.le_of_ble_eq_true rfl, Nat.le_of_ble_eq_true rfl⟩ agx1 g1 dX1_init_12
theorem z_Co_init {w : World} (hz : Zn 150 w) : Zn 151 (i_Co_init w) := by
  have hz3 := Zn_le (m := 151) hz (by omega)
  have hz4 := Zn_up (c := 150) (k := 1) (v := (151 : Nat)) hz3 (by omega)
  exact hz4
theorem rn_Co_init {w : World} (hr : Rn TA 150 w) : Rn TA 151 (i_Co_init w) := by
  have hr3 := Rn_le (m := 151) hr (by omega)
  have hr4 := Rn_up (c := 150) (k := 1) (v := (151 : Nat)) hr3 (by omega)
  exact hr4
theorem dfX3 : ∀ j, j < 3 → defaultValue (tyX3 j) = if TA.isref 4 j = true then .null else .int 0 := by decide +kernel
def i_Go_init (w : World) : World := (up (up w 152 1 (153 : Nat)) 152 2 (154 : Nat))
abbrev rm_Go_init : Room := { frames := 1, cells := 2, slots := 1424, locals := 24 }
set_option maxRecDepth 100000 in
set_option maxHeartbeats 4000000 in
theorem c_Go_init {S : EE} {l : Launch} {ad : Nat → Nat} {w : World} (hI : Inj (tr TA 152) (sad S ad)) (hz : Zn 152 w) (hr : Rn TA 152 w) : ConC TA S 152 154 l yX3_init (WS yX3_init cX3_init 1 none) rm_Go_init [.ref (ad 152)] ad w (i_Go_init w) := by
  refine con_C (by decide +kernel) rfl (Nat.le_of_ble_eq_true rfl) (c1s_a c1s_0 (Nat.le_of_ble_eq_true rfl)).1 hI TnA (by omega) ?_
  intro K H0 o g kc _ hret
  refine J_aldA_n o dX3_init_0 rfl ?_
  refine J_objinit o dX3_init_1 mw373 mw137 mw138 ⟨by decide, by decide⟩ ?_
  refine J_aldA_n o dX3_init_4 rfl ?_
  refine J_sipush o.1 dX3_init_5 (by decide) ?_
  refine J_newI (N := 400) (n := 152) o TnA g kc dX3_init_8 mw158 kA_153 (Int.ofNat.inj (zA_153 : ((TA.ln 153 : Nat) : Int) = ((400 : Nat) : Int))) (by decide) hz hr rfl rfl ⟨Nat.le_of_ble_eq_true rfl, Nat.le_of_ble_eq_true rfl⟩ ?_
  intro K1 ad1 q1 sim1 o1 kc1 ag1 hq1 g1
  have f2 : ad1 152 = (ad 152) := ((ag1.1 152 (by omega)).trans (rfl : ad 152 = ad 152))
  have agx1 := Ag.trans Ag.refl ag1 (by omega) (Nat.le_refl _)
  have simx1 := KSim.trans KSim.refl sim1
  have hz3 := Zn_le (m := 153) hz (by omega)
  have hr3 := Rn_le (m := 153) hr (by omega)
  refine J_t2 (rfa (S := S) f2 (by omega)) ?_
  refine J_t1 (rfa (S := S) hq1 (by omega)) ?_
  refine J_putF o1 g1 dX3_init_10 fpfX3_9 (tr_kd kA_152 (by omega)) rfl rfl (by have := lt_A kA_153 (by decide); omega) (Or.inr ⟨_, rfl⟩) ?_
  have hz4 := Zn_up (c := 152) (k := 1) (v := (153 : Nat)) hz3 (by omega)
  have hr4 := Rn_up (c := 152) (k := 1) (v := (153 : Nat)) hr3 (by omega)
  refine J_aldA_n o1 dX3_init_13 rfl ?_
  refine J_sipush o1.1 dX3_init_14 (by decide) ?_
  refine J_newI (N := 1024) (n := 153) o1 TnA g1 kc1 dX3_init_17 mw158 kA_154 (Int.ofNat.inj (zA_154 : ((TA.ln 154 : Nat) : Int) = ((1024 : Nat) : Int))) (by decide) hz4 hr4 rfl rfl ⟨Nat.le_of_ble_eq_true rfl, Nat.le_of_ble_eq_true rfl⟩ ?_
  intro K5 ad5 q5 sim5 o5 kc5 ag5 hq5 g5
  have f6 : ad5 152 = (ad 152) := ((ag5.1 152 (by omega)).trans f2)
  have agx5 := Ag.trans agx1 ag5 (by omega) (Nat.le_refl _)
  have simx5 := KSim.trans simx1 sim5
  have hz7 := Zn_le (m := 154) hz4 (by omega)
  have hr7 := Rn_le (m := 154) hr4 (by omega)
  refine J_t2 (rfa (S := S) f6 (by omega)) ?_
  refine J_t1 (rfa (S := S) hq5 (by omega)) ?_
  refine J_putF o5 g5 dX3_init_19 fpfX3_15 (tr_kd kA_152 (by omega)) rfl rfl (by have := lt_A kA_154 (by decide); omega) (Or.inr ⟨_, rfl⟩) ?_
  have hz8 := Zn_up (c := 152) (k := 2) (v := (154 : Nat)) hz7 (by omega)
  have hr8 := Rn_up (c := 152) (k := 2) (v := (154 : Nat)) hr7 (by omega)
  exact hret _ _ _ _ _ _ simx5 kc5 ⟨Nat.le_of_ble_eq_true rfl, Nat.le_of_ble_eq_true rfl⟩ agx5 g5 dX3_init_22
theorem z_Go_init {w : World} (hz : Zn 152 w) : Zn 154 (i_Go_init w) := by
  have hz3 := Zn_le (m := 153) hz (by omega)
  have hz4 := Zn_up (c := 152) (k := 1) (v := (153 : Nat)) hz3 (by omega)
  have hz7 := Zn_le (m := 154) hz4 (by omega)
  have hz8 := Zn_up (c := 152) (k := 2) (v := (154 : Nat)) hz7 (by omega)
  exact hz8
theorem rn_Go_init {w : World} (hr : Rn TA 152 w) : Rn TA 154 (i_Go_init w) := by
  have hr3 := Rn_le (m := 153) hr (by omega)
  have hr4 := Rn_up (c := 152) (k := 1) (v := (153 : Nat)) hr3 (by omega)
  have hr7 := Rn_le (m := 154) hr4 (by omega)
  have hr8 := Rn_up (c := 152) (k := 2) (v := (154 : Nat)) hr7 (by omega)
  exact hr8
theorem dfX6 : ∀ j, j < 3 → defaultValue (tyX6 j) = if TA.isref 7 j = true then .null else .int 0 := by decide +kernel
def i_Pl_init (w : World) : World := (up (up w 155 1 (156 : Nat)) 155 2 (157 : Nat))
abbrev rm_Pl_init : Room := { frames := 1, cells := 2, slots := 6, locals := 24 }
set_option maxRecDepth 100000 in
set_option maxHeartbeats 4000000 in
theorem c_Pl_init {S : EE} {l : Launch} {ad : Nat → Nat} {w : World} (hI : Inj (tr TA 155) (sad S ad)) (hz : Zn 155 w) (hr : Rn TA 155 w) : ConC TA S 155 157 l yX6_init (WS yX6_init cX6_init 1 none) rm_Pl_init [.ref (ad 155)] ad w (i_Pl_init w) := by
  refine con_C (by decide +kernel) rfl (Nat.le_of_ble_eq_true rfl) (c1s_a c1s_0 (Nat.le_of_ble_eq_true rfl)).1 hI TnA (by omega) ?_
  intro K H0 o g kc _ hret
  refine J_aldA_n o dX6_init_0 rfl ?_
  refine J_objinit o dX6_init_1 mw390 mw137 mw138 ⟨by decide, by decide⟩ ?_
  refine J_aldA_n o dX6_init_4 rfl ?_
  refine J_iconst o.1 dX6_init_5 ?_
  refine J_newI (N := 3) (n := 155) o TnA g kc dX6_init_6 mw158 kA_156 (Int.ofNat.inj (zA_156 : ((TA.ln 156 : Nat) : Int) = ((3 : Nat) : Int))) (by decide) hz hr rfl rfl ⟨Nat.le_of_ble_eq_true rfl, Nat.le_of_ble_eq_true rfl⟩ ?_
  intro K1 ad1 q1 sim1 o1 kc1 ag1 hq1 g1
  have f2 : ad1 155 = (ad 155) := ((ag1.1 155 (by omega)).trans (rfl : ad 155 = ad 155))
  have agx1 := Ag.trans Ag.refl ag1 (by omega) (Nat.le_refl _)
  have simx1 := KSim.trans KSim.refl sim1
  have hz3 := Zn_le (m := 156) hz (by omega)
  have hr3 := Rn_le (m := 156) hr (by omega)
  refine J_t2 (rfa (S := S) f2 (by omega)) ?_
  refine J_t1 (rfa (S := S) hq1 (by omega)) ?_
  refine J_putF o1 g1 dX6_init_8 fpfX6_9 (tr_kd kA_155 (by omega)) rfl rfl (by have := lt_A kA_156 (by decide); omega) (Or.inr ⟨_, rfl⟩) ?_
  have hz4 := Zn_up (c := 155) (k := 1) (v := (156 : Nat)) hz3 (by omega)
  have hr4 := Rn_up (c := 155) (k := 1) (v := (156 : Nat)) hr3 (by omega)
  refine J_aldA_n o1 dX6_init_11 rfl ?_
  refine J_iconst o1.1 dX6_init_12 ?_
  refine J_newI (N := 3) (n := 156) o1 TnA g1 kc1 dX6_init_13 mw158 kA_157 (Int.ofNat.inj (zA_157 : ((TA.ln 157 : Nat) : Int) = ((3 : Nat) : Int))) (by decide) hz4 hr4 rfl rfl ⟨Nat.le_of_ble_eq_true rfl, Nat.le_of_ble_eq_true rfl⟩ ?_
  intro K5 ad5 q5 sim5 o5 kc5 ag5 hq5 g5
  have f6 : ad5 155 = (ad 155) := ((ag5.1 155 (by omega)).trans f2)
  have agx5 := Ag.trans agx1 ag5 (by omega) (Nat.le_refl _)
  have simx5 := KSim.trans simx1 sim5
  have hz7 := Zn_le (m := 157) hz4 (by omega)
  have hr7 := Rn_le (m := 157) hr4 (by omega)
  refine J_t2 (rfa (S := S) f6 (by omega)) ?_
  refine J_t1 (rfa (S := S) hq5 (by omega)) ?_
  refine J_putF o5 g5 dX6_init_15 fpfX6_15 (tr_kd kA_155 (by omega)) rfl rfl (by have := lt_A kA_157 (by decide); omega) (Or.inr ⟨_, rfl⟩) ?_
  have hz8 := Zn_up (c := 155) (k := 2) (v := (157 : Nat)) hz7 (by omega)
  have hr8 := Rn_up (c := 155) (k := 2) (v := (157 : Nat)) hr7 (by omega)
  exact hret _ _ _ _ _ _ simx5 kc5 ⟨Nat.le_of_ble_eq_true rfl, Nat.le_of_ble_eq_true rfl⟩ agx5 g5 dX6_init_18
theorem z_Pl_init {w : World} (hz : Zn 155 w) : Zn 157 (i_Pl_init w) := by
  have hz3 := Zn_le (m := 156) hz (by omega)
  have hz4 := Zn_up (c := 155) (k := 1) (v := (156 : Nat)) hz3 (by omega)
  have hz7 := Zn_le (m := 157) hz4 (by omega)
  have hz8 := Zn_up (c := 155) (k := 2) (v := (157 : Nat)) hz7 (by omega)
  exact hz8
theorem rn_Pl_init {w : World} (hr : Rn TA 155 w) : Rn TA 157 (i_Pl_init w) := by
  have hr3 := Rn_le (m := 156) hr (by omega)
  have hr4 := Rn_up (c := 155) (k := 1) (v := (156 : Nat)) hr3 (by omega)
  have hr7 := Rn_le (m := 157) hr4 (by omega)
  have hr8 := Rn_up (c := 155) (k := 2) (v := (157 : Nat)) hr7 (by omega)
  exact hr8
theorem dfX10 : ∀ j, j < 13 → defaultValue (tyX10 j) = if TA.isref 11 j = true then .null else .int 0 := by decide +kernel
def iw_Dm_init_0 (w : World) : World := (i_Sc_init w)
def iw_Dm_init_1 (w : World) : World := (i_Fa_init (iw_Dm_init_0 w))
def iw_Dm_init_2 (w : World) : World := (i_Pr_init (iw_Dm_init_1 w))
def iw_Dm_init_3 (w : World) : World := (i_Bo_init (iw_Dm_init_2 w) 94)
def iw_Dm_init_4 (w : World) : World := (i_Mo_init (iw_Dm_init_3 w) 98)
def iw_Dm_init_5 (w : World) : World := (i_Wa_init (iw_Dm_init_4 w))
def iw_Dm_init_6 (w : World) : World := (up (iw_Dm_init_5 w) 1 0 (2 : Nat))
def iw_Dm_init_7 (w : World) : World := (up (iw_Dm_init_6 w) 1 1 (7 : Nat))
def iw_Dm_init_8 (w : World) : World := (up (iw_Dm_init_7 w) 1 2 (14 : Nat))
def iw_Dm_init_9 (w : World) : World := (up (iw_Dm_init_8 w) 1 3 (94 : Nat))
def iw_Dm_init_10 (w : World) : World := (up (iw_Dm_init_9 w) 1 6 (98 : Nat))
def iw_Dm_init_11 (w : World) : World := (up (iw_Dm_init_10 w) 1 7 (103 : Nat))
def iw_Dm_init_12 (w : World) : World := (i_Mi_init (iw_Dm_init_11 w))
def iw_Dm_init_13 (w : World) : World := (up (iw_Dm_init_12 w) 1 8 (107 : Nat))
def iw_Dm_init_14 (w : World) : World := (up (iw_Dm_init_13 w) 1 4 (108 : Nat))
def iw_Dm_init_15 (w : World) : World := (up (iw_Dm_init_14 w) 1 5 (109 : Nat))
theorem iv_Dm_init_14_1_4 (w : World) : iw_Dm_init_14 w 1 4 = (108 : Nat) := up_eq
theorem iv_Dm_init_15_1_4 (w : World) : iw_Dm_init_15 w 1 4 = (108 : Nat) := (upo (c := 1) (k := 5) (c' := 1) (k' := 4) (by decide)).trans (iv_Dm_init_14_1_4 w)
def iw_Dm_init_16 (w : World) : World := (i_Mo_init (iw_Dm_init_15 w) 110)
def iw_Dm_init_17 (w : World) : World := (up (iw_Dm_init_16 w) 108 0 (110 : Nat))
theorem iv_Dm_init_15_1_5 (w : World) : iw_Dm_init_15 w 1 5 = (109 : Nat) := up_eq
theorem iv_Dm_init_16_1_5 (w : World) : iw_Dm_init_16 w 1 5 = (109 : Nat) := (fr_Mo_init (n := 110) (c := 1) (k := 5) (by decide) (by decide)).trans (iv_Dm_init_15_1_5 w)
theorem iv_Dm_init_17_1_5 (w : World) : iw_Dm_init_17 w 1 5 = (109 : Nat) := (upo (c := 108) (k := 0) (c' := 1) (k' := 5) (by decide)).trans (iv_Dm_init_16_1_5 w)
def iw_Dm_init_18 (w : World) : World := (i_Mo_init (iw_Dm_init_17 w) 115)
def iw_Dm_init_19 (w : World) : World := (up (iw_Dm_init_18 w) 109 0 (115 : Nat))
theorem iv_Dm_init_16_1_4 (w : World) : iw_Dm_init_16 w 1 4 = (108 : Nat) := (fr_Mo_init (n := 110) (c := 1) (k := 4) (by decide) (by decide)).trans (iv_Dm_init_15_1_4 w)
theorem iv_Dm_init_17_1_4 (w : World) : iw_Dm_init_17 w 1 4 = (108 : Nat) := (upo (c := 108) (k := 0) (c' := 1) (k' := 4) (by decide)).trans (iv_Dm_init_16_1_4 w)
theorem iv_Dm_init_18_1_4 (w : World) : iw_Dm_init_18 w 1 4 = (108 : Nat) := (fr_Mo_init (n := 115) (c := 1) (k := 4) (by decide) (by decide)).trans (iv_Dm_init_17_1_4 w)
theorem iv_Dm_init_19_1_4 (w : World) : iw_Dm_init_19 w 1 4 = (108 : Nat) := (upo (c := 109) (k := 0) (c' := 1) (k' := 4) (by decide)).trans (iv_Dm_init_18_1_4 w)
def iw_Dm_init_20 (w : World) : World := (i_Mo_init (iw_Dm_init_19 w) 120)
def iw_Dm_init_21 (w : World) : World := (up (iw_Dm_init_20 w) 108 1 (120 : Nat))
theorem iv_Dm_init_18_1_5 (w : World) : iw_Dm_init_18 w 1 5 = (109 : Nat) := (fr_Mo_init (n := 115) (c := 1) (k := 5) (by decide) (by decide)).trans (iv_Dm_init_17_1_5 w)
theorem iv_Dm_init_19_1_5 (w : World) : iw_Dm_init_19 w 1 5 = (109 : Nat) := (upo (c := 109) (k := 0) (c' := 1) (k' := 5) (by decide)).trans (iv_Dm_init_18_1_5 w)
theorem iv_Dm_init_20_1_5 (w : World) : iw_Dm_init_20 w 1 5 = (109 : Nat) := (fr_Mo_init (n := 120) (c := 1) (k := 5) (by decide) (by decide)).trans (iv_Dm_init_19_1_5 w)
theorem iv_Dm_init_21_1_5 (w : World) : iw_Dm_init_21 w 1 5 = (109 : Nat) := (upo (c := 108) (k := 1) (c' := 1) (k' := 5) (by decide)).trans (iv_Dm_init_20_1_5 w)
def iw_Dm_init_22 (w : World) : World := (i_Mo_init (iw_Dm_init_21 w) 125)
def iw_Dm_init_23 (w : World) : World := (up (iw_Dm_init_22 w) 109 1 (125 : Nat))
theorem iv_Dm_init_20_1_4 (w : World) : iw_Dm_init_20 w 1 4 = (108 : Nat) := (fr_Mo_init (n := 120) (c := 1) (k := 4) (by decide) (by decide)).trans (iv_Dm_init_19_1_4 w)
theorem iv_Dm_init_21_1_4 (w : World) : iw_Dm_init_21 w 1 4 = (108 : Nat) := (upo (c := 108) (k := 1) (c' := 1) (k' := 4) (by decide)).trans (iv_Dm_init_20_1_4 w)
theorem iv_Dm_init_22_1_4 (w : World) : iw_Dm_init_22 w 1 4 = (108 : Nat) := (fr_Mo_init (n := 125) (c := 1) (k := 4) (by decide) (by decide)).trans (iv_Dm_init_21_1_4 w)
theorem iv_Dm_init_23_1_4 (w : World) : iw_Dm_init_23 w 1 4 = (108 : Nat) := (upo (c := 109) (k := 1) (c' := 1) (k' := 4) (by decide)).trans (iv_Dm_init_22_1_4 w)
def iw_Dm_init_24 (w : World) : World := (i_Mo_init (iw_Dm_init_23 w) 130)
def iw_Dm_init_25 (w : World) : World := (up (iw_Dm_init_24 w) 108 2 (130 : Nat))
theorem iv_Dm_init_22_1_5 (w : World) : iw_Dm_init_22 w 1 5 = (109 : Nat) := (fr_Mo_init (n := 125) (c := 1) (k := 5) (by decide) (by decide)).trans (iv_Dm_init_21_1_5 w)
theorem iv_Dm_init_23_1_5 (w : World) : iw_Dm_init_23 w 1 5 = (109 : Nat) := (upo (c := 109) (k := 1) (c' := 1) (k' := 5) (by decide)).trans (iv_Dm_init_22_1_5 w)
theorem iv_Dm_init_24_1_5 (w : World) : iw_Dm_init_24 w 1 5 = (109 : Nat) := (fr_Mo_init (n := 130) (c := 1) (k := 5) (by decide) (by decide)).trans (iv_Dm_init_23_1_5 w)
theorem iv_Dm_init_25_1_5 (w : World) : iw_Dm_init_25 w 1 5 = (109 : Nat) := (upo (c := 108) (k := 2) (c' := 1) (k' := 5) (by decide)).trans (iv_Dm_init_24_1_5 w)
def iw_Dm_init_26 (w : World) : World := (i_Mo_init (iw_Dm_init_25 w) 135)
def iw_Dm_init_27 (w : World) : World := (up (iw_Dm_init_26 w) 109 2 (135 : Nat))
theorem iv_Dm_init_24_1_4 (w : World) : iw_Dm_init_24 w 1 4 = (108 : Nat) := (fr_Mo_init (n := 130) (c := 1) (k := 4) (by decide) (by decide)).trans (iv_Dm_init_23_1_4 w)
theorem iv_Dm_init_25_1_4 (w : World) : iw_Dm_init_25 w 1 4 = (108 : Nat) := (upo (c := 108) (k := 2) (c' := 1) (k' := 4) (by decide)).trans (iv_Dm_init_24_1_4 w)
theorem iv_Dm_init_26_1_4 (w : World) : iw_Dm_init_26 w 1 4 = (108 : Nat) := (fr_Mo_init (n := 135) (c := 1) (k := 4) (by decide) (by decide)).trans (iv_Dm_init_25_1_4 w)
theorem iv_Dm_init_27_1_4 (w : World) : iw_Dm_init_27 w 1 4 = (108 : Nat) := (upo (c := 109) (k := 2) (c' := 1) (k' := 4) (by decide)).trans (iv_Dm_init_26_1_4 w)
def iw_Dm_init_28 (w : World) : World := (i_Mo_init (iw_Dm_init_27 w) 140)
def iw_Dm_init_29 (w : World) : World := (up (iw_Dm_init_28 w) 108 3 (140 : Nat))
theorem iv_Dm_init_26_1_5 (w : World) : iw_Dm_init_26 w 1 5 = (109 : Nat) := (fr_Mo_init (n := 135) (c := 1) (k := 5) (by decide) (by decide)).trans (iv_Dm_init_25_1_5 w)
theorem iv_Dm_init_27_1_5 (w : World) : iw_Dm_init_27 w 1 5 = (109 : Nat) := (upo (c := 109) (k := 2) (c' := 1) (k' := 5) (by decide)).trans (iv_Dm_init_26_1_5 w)
theorem iv_Dm_init_28_1_5 (w : World) : iw_Dm_init_28 w 1 5 = (109 : Nat) := (fr_Mo_init (n := 140) (c := 1) (k := 5) (by decide) (by decide)).trans (iv_Dm_init_27_1_5 w)
theorem iv_Dm_init_29_1_5 (w : World) : iw_Dm_init_29 w 1 5 = (109 : Nat) := (upo (c := 108) (k := 3) (c' := 1) (k' := 5) (by decide)).trans (iv_Dm_init_28_1_5 w)
def iw_Dm_init_30 (w : World) : World := (i_Mo_init (iw_Dm_init_29 w) 145)
def iw_Dm_init_31 (w : World) : World := (up (iw_Dm_init_30 w) 109 3 (145 : Nat))
def iw_Dm_init_32 (w : World) : World := (i_Co_init (iw_Dm_init_31 w))
def iw_Dm_init_33 (w : World) : World := (up (iw_Dm_init_32 w) 1 9 (150 : Nat))
def iw_Dm_init_34 (w : World) : World := (i_Go_init (iw_Dm_init_33 w))
def iw_Dm_init_35 (w : World) : World := (up (iw_Dm_init_34 w) 1 10 (152 : Nat))
def iw_Dm_init_36 (w : World) : World := (i_Pl_init (iw_Dm_init_35 w))
def iw_Dm_init_37 (w : World) : World := (up (iw_Dm_init_36 w) 1 11 (155 : Nat))
def i_Dm_init (w : World) : World := (iw_Dm_init_37 w)
abbrev rm_Dm_init : Room := { frames := 3, cells := 156, slots := 3887, locals := 66 }
set_option maxRecDepth 100000 in
set_option maxHeartbeats 4000000 in
theorem c_Dm_init {S : EE} {l : Launch} {ad : Nat → Nat} {w : World} (hI : Inj (tr TA 1) (sad S ad)) (hz : Zn 1 w) (hr : Rn TA 1 w) : ConC TA S 1 157 l yX10_init (WS yX10_init cX10_init 8 none) rm_Dm_init [.ref (ad 1)] ad w (i_Dm_init w) := by
  refine con_C (by decide +kernel) rfl (Nat.le_of_ble_eq_true rfl) (c1s_a c1s_0 (Nat.le_of_ble_eq_true rfl)).1 hI TnA (by omega) ?_
  intro K H0 o g kc _ hret
  refine J_aldA_n o dX10_init_0 rfl ?_
  refine J_objinit o dX10_init_1 mw136 mw137 mw138 ⟨by decide, by decide⟩ ?_
  refine J_new (κ := 9) (n := 1) o TnA g kc dX10_init_4 mw139 mw140 mw113 rfl inWX8 tyX8_ok kA_2 ⟨by decide, by decide⟩ dfX8 hz hr rfl rfl ⟨Nat.le_of_ble_eq_true rfl, Nat.le_of_ble_eq_true rfl⟩ ?_
  intro K1 ad1 q1 sim1 o1 kc1 ag1 hq1 g1
  have f2 : ad1 1 = (ad 1) := ((ag1.1 1 (by omega)).trans (rfl : ad 1 = ad 1))
  have agx1 := Ag.trans Ag.refl ag1 (by omega) (Nat.le_refl _)
  have simx1 := KSim.trans KSim.refl sim1
  have hz3 : Zn 2 w := Zn_le (m := 2) hz (by omega)
  have hr3 : Rn TA 2 w := Rn_le (m := 2) hr (by omega)
  refine J_dup o1.1 dX10_init_7 rfl ?_
  refine J_init (n := 2) (n' := 6) o1 TnA g1 kc1 dX10_init_8 lkX10_11 ml_Sc_init mw142 rfl ⟨Nat.le_of_ble_eq_true rfl, Nat.le_of_ble_eq_true rfl⟩ (b1 := q1) (vs' := []) (c_Sc_init g1.2.1 hz3 hr3) (by rw [hq1]) rfl (by omega) rfl (c1s_a c1s_0 (Nat.le_of_ble_eq_true rfl)) rfl rfl ⟨Nat.le_of_ble_eq_true rfl, Nat.le_of_ble_eq_true rfl⟩ ?_
  intro K4 ad4 sim4 o4 kc4 ag4 g4
  have f5 : ad4 1 = (ad 1) := ((ag4.1 1 (by omega)).trans f2)
  have f6 : ad4 2 = q1 := ((ag4.1 2 (by omega)).trans hq1)
  have agx4 := Ag.trans agx1 ag4 (by omega) (Nat.le_refl _)
  have simx4 := KSim.trans simx1 sim4
  refine J_fold (w' := (iw_Dm_init_0 w)) rfl ?_
  have hz7 : Zn 6 (iw_Dm_init_0 w) := z_Sc_init hz3
  have hr7 : Rn TA 6 (iw_Dm_init_0 w) := rn_Sc_init hr3
  refine J_astA_n o4 dX10_init_11 (Nat.le_of_ble_eq_true rfl) ?_
  refine J_foldL (L' := [some (.ref (ad 1)), some (.ref q1), none, none, none, none, none, none]) rfl ?_
  refine J_new (κ := 3) (n := 6) o4 TnA g4 kc4 dX10_init_12 mw159 mw160 mw114 rfl inWX2 tyX2_ok kA_7 ⟨by decide, by decide⟩ dfX2 hz7 hr7 rfl rfl ⟨Nat.le_of_ble_eq_true rfl, Nat.le_of_ble_eq_true rfl⟩ ?_
  intro K8 ad8 q8 sim8 o8 kc8 ag8 hq8 g8
  have f9 : ad8 1 = (ad 1) := ((ag8.1 1 (by omega)).trans f5)
  have f10 : ad8 2 = q1 := ((ag8.1 2 (by omega)).trans f6)
  have agx8 := Ag.trans agx4 ag8 (by omega) (Nat.le_refl _)
  have simx8 := KSim.trans simx4 sim8
  have hz11 : Zn 7 (iw_Dm_init_0 w) := Zn_le (m := 7) hz7 (by omega)
  have hr11 : Rn TA 7 (iw_Dm_init_0 w) := Rn_le (m := 7) hr7 (by omega)
  refine J_dup o8.1 dX10_init_15 rfl ?_
  refine J_init (n := 7) (n' := 13) o8 TnA g8 kc8 dX10_init_16 lkX10_14 ml_Fa_init mw162 rfl ⟨Nat.le_of_ble_eq_true rfl, Nat.le_of_ble_eq_true rfl⟩ (b1 := q8) (vs' := []) (c_Fa_init g8.2.1 hz11 hr11) (by rw [hq8]) rfl (by omega) rfl (c1s_a c1s_0 (Nat.le_of_ble_eq_true rfl)) rfl rfl ⟨Nat.le_of_ble_eq_true rfl, Nat.le_of_ble_eq_true rfl⟩ ?_
  intro K12 ad12 sim12 o12 kc12 ag12 g12
  have f13 : ad12 1 = (ad 1) := ((ag12.1 1 (by omega)).trans f9)
  have f14 : ad12 2 = q1 := ((ag12.1 2 (by omega)).trans f10)
  have f15 : ad12 7 = q8 := ((ag12.1 7 (by omega)).trans hq8)
  have agx12 := Ag.trans agx8 ag12 (by omega) (Nat.le_refl _)
  have simx12 := KSim.trans simx8 sim12
  refine J_fold (w' := (iw_Dm_init_1 w)) rfl ?_
  have hz16 : Zn 13 (iw_Dm_init_1 w) := z_Fa_init hz11
  have hr16 : Rn TA 13 (iw_Dm_init_1 w) := rn_Fa_init hr11
  refine J_astA_n o12 dX10_init_19 (Nat.le_of_ble_eq_true rfl) ?_
  refine J_foldL (L' := [some (.ref (ad 1)), some (.ref q1), some (.ref q8), none, none, none, none, none]) rfl ?_
  refine J_new (κ := 8) (n := 13) o12 TnA g12 kc12 dX10_init_20 mw194 mw195 mw115 rfl inWX7 tyX7_ok kA_14 ⟨by decide, by decide⟩ dfX7 hz16 hr16 rfl rfl ⟨Nat.le_of_ble_eq_true rfl, Nat.le_of_ble_eq_true rfl⟩ ?_
  intro K17 ad17 q17 sim17 o17 kc17 ag17 hq17 g17
  have f18 : ad17 1 = (ad 1) := ((ag17.1 1 (by omega)).trans f13)
  have f19 : ad17 2 = q1 := ((ag17.1 2 (by omega)).trans f14)
  have f20 : ad17 7 = q8 := ((ag17.1 7 (by omega)).trans f15)
  have agx17 := Ag.trans agx12 ag17 (by omega) (Nat.le_refl _)
  have simx17 := KSim.trans simx12 sim17
  have hz21 : Zn 14 (iw_Dm_init_1 w) := Zn_le (m := 14) hz16 (by omega)
  have hr21 : Rn TA 14 (iw_Dm_init_1 w) := Rn_le (m := 14) hr16 (by omega)
  refine J_dup o17.1 dX10_init_23 rfl ?_
  refine J_aldA_n o17 dX10_init_24 rfl ?_
  refine J_init (n := 14) (n' := 93) o17 TnA g17 kc17 dX10_init_25 lkX10_17 ml_Pr_init mw197 rfl ⟨Nat.le_of_ble_eq_true rfl, Nat.le_of_ble_eq_true rfl⟩ (b1 := q17) (vs' := [.ref q1]) (c_Pr_init g17.2.1 hz21 hr21) (by rw [hq17, f19]) rfl (by omega) rfl (c1s_a c1s_0 (Nat.le_of_ble_eq_true rfl)) rfl rfl ⟨Nat.le_of_ble_eq_true rfl, Nat.le_of_ble_eq_true rfl⟩ ?_
  intro K22 ad22 sim22 o22 kc22 ag22 g22
  have f23 : ad22 1 = (ad 1) := ((ag22.1 1 (by omega)).trans f18)
  have f24 : ad22 2 = q1 := ((ag22.1 2 (by omega)).trans f19)
  have f25 : ad22 7 = q8 := ((ag22.1 7 (by omega)).trans f20)
  have f26 : ad22 14 = q17 := ((ag22.1 14 (by omega)).trans hq17)
  have agx22 := Ag.trans agx17 ag22 (by omega) (Nat.le_refl _)
  have simx22 := KSim.trans simx17 sim22
  refine J_fold (w' := (iw_Dm_init_2 w)) rfl ?_
  have hz27 : Zn 93 (iw_Dm_init_2 w) := z_Pr_init hz21
  have hr27 : Rn TA 93 (iw_Dm_init_2 w) := rn_Pr_init hr21
  refine J_astA_n o22 dX10_init_28 (Nat.le_of_ble_eq_true rfl) ?_
  refine J_foldL (L' := [some (.ref (ad 1)), some (.ref q1), some (.ref q8), some (.ref q17), none, none, none, none]) rfl ?_
  refine J_new (κ := 1) (n := 93) o22 TnA g22 kc22 dX10_init_29 mw266 mw201 mw116 rfl inWX0 tyX0_ok kA_94 ⟨by decide, by decide⟩ dfX0 hz27 hr27 rfl rfl ⟨Nat.le_of_ble_eq_true rfl, Nat.le_of_ble_eq_true rfl⟩ ?_
  intro K28 ad28 q28 sim28 o28 kc28 ag28 hq28 g28
  have f29 : ad28 1 = (ad 1) := ((ag28.1 1 (by omega)).trans f23)
  have f30 : ad28 2 = q1 := ((ag28.1 2 (by omega)).trans f24)
  have f31 : ad28 7 = q8 := ((ag28.1 7 (by omega)).trans f25)
  have f32 : ad28 14 = q17 := ((ag28.1 14 (by omega)).trans f26)
  have agx28 := Ag.trans agx22 ag28 (by omega) (Nat.le_refl _)
  have simx28 := KSim.trans simx22 sim28
  have hz33 : Zn 94 (iw_Dm_init_2 w) := Zn_le (m := 94) hz27 (by omega)
  have hr33 : Rn TA 94 (iw_Dm_init_2 w) := Rn_le (m := 94) hr27 (by omega)
  refine J_dup o28.1 dX10_init_32 rfl ?_
  refine J_init (n := 94) (n' := 97) o28 TnA g28 kc28 dX10_init_33 lkX10_22 ml_Bo_init mw203 rfl ⟨Nat.le_of_ble_eq_true rfl, Nat.le_of_ble_eq_true rfl⟩ (b1 := q28) (vs' := []) (c_Bo_init (n := 94) kA_94 g28.2.1 hz33 hr33) (by rw [hq28]) rfl (by omega) rfl (c1s_a c1s_0 (Nat.le_of_ble_eq_true rfl)) rfl rfl ⟨Nat.le_of_ble_eq_true rfl, Nat.le_of_ble_eq_true rfl⟩ ?_
  intro K34 ad34 sim34 o34 kc34 ag34 g34
  have f35 : ad34 1 = (ad 1) := ((ag34.1 1 (by omega)).trans f29)
  have f36 : ad34 2 = q1 := ((ag34.1 2 (by omega)).trans f30)
  have f37 : ad34 7 = q8 := ((ag34.1 7 (by omega)).trans f31)
  have f38 : ad34 14 = q17 := ((ag34.1 14 (by omega)).trans f32)
  have f39 : ad34 94 = q28 := ((ag34.1 94 (by omega)).trans hq28)
  have agx34 := Ag.trans agx28 ag34 (by omega) (Nat.le_refl _)
  have simx34 := KSim.trans simx28 sim34
  refine J_fold (w' := (iw_Dm_init_3 w)) rfl ?_
  have hz40 : Zn 97 (iw_Dm_init_3 w) := z_Bo_init (n := 94) hz33
  have hr40 : Rn TA 97 (iw_Dm_init_3 w) := rn_Bo_init (n := 94) hr33
  refine J_astA o34 dX10_init_36 (Nat.le_of_ble_eq_true rfl) ?_
  refine J_foldL (L' := [some (.ref (ad 1)), some (.ref q1), some (.ref q8), some (.ref q17), some (.ref q28), none, none, none]) rfl ?_
  refine J_new (κ := 6) (n := 97) o34 TnA g34 kc34 dX10_init_38 mw268 mw269 mw117 rfl inWX5 tyX5_ok kA_98 ⟨by decide, by decide⟩ dfX5 hz40 hr40 rfl rfl ⟨Nat.le_of_ble_eq_true rfl, Nat.le_of_ble_eq_true rfl⟩ ?_
  intro K41 ad41 q41 sim41 o41 kc41 ag41 hq41 g41
  have f42 : ad41 1 = (ad 1) := ((ag41.1 1 (by omega)).trans f35)
  have f43 : ad41 2 = q1 := ((ag41.1 2 (by omega)).trans f36)
  have f44 : ad41 7 = q8 := ((ag41.1 7 (by omega)).trans f37)
  have f45 : ad41 14 = q17 := ((ag41.1 14 (by omega)).trans f38)
  have f46 : ad41 94 = q28 := ((ag41.1 94 (by omega)).trans f39)
  have agx41 := Ag.trans agx34 ag41 (by omega) (Nat.le_refl _)
  have simx41 := KSim.trans simx34 sim41
  have hz47 : Zn 98 (iw_Dm_init_3 w) := Zn_le (m := 98) hz40 (by omega)
  have hr47 : Rn TA 98 (iw_Dm_init_3 w) := Rn_le (m := 98) hr40 (by omega)
  refine J_dup o41.1 dX10_init_41 rfl ?_
  refine J_aldA_n o41 dX10_init_42 rfl ?_
  refine J_init (n := 98) (n' := 102) o41 TnA g41 kc41 dX10_init_43 lkX10_25 ml_Mo_init mw271 rfl ⟨Nat.le_of_ble_eq_true rfl, Nat.le_of_ble_eq_true rfl⟩ (b1 := q41) (vs' := [.ref q1]) (c_Mo_init (n := 98) kA_98 g41.2.1 hz47 hr47 (by omega)) (by rw [hq41, f43]) rfl (by omega) rfl (c1s_a c1s_0 (Nat.le_of_ble_eq_true rfl)) rfl rfl ⟨Nat.le_of_ble_eq_true rfl, Nat.le_of_ble_eq_true rfl⟩ ?_
  intro K48 ad48 sim48 o48 kc48 ag48 g48
  have f49 : ad48 1 = (ad 1) := ((ag48.1 1 (by omega)).trans f42)
  have f50 : ad48 2 = q1 := ((ag48.1 2 (by omega)).trans f43)
  have f51 : ad48 7 = q8 := ((ag48.1 7 (by omega)).trans f44)
  have f52 : ad48 14 = q17 := ((ag48.1 14 (by omega)).trans f45)
  have f53 : ad48 94 = q28 := ((ag48.1 94 (by omega)).trans f46)
  have f54 : ad48 98 = q41 := ((ag48.1 98 (by omega)).trans hq41)
  have agx48 := Ag.trans agx41 ag48 (by omega) (Nat.le_refl _)
  have simx48 := KSim.trans simx41 sim48
  refine J_fold (w' := (iw_Dm_init_4 w)) rfl ?_
  have hz55 : Zn 102 (iw_Dm_init_4 w) := z_Mo_init (n := 98) hz47
  have hr55 : Rn TA 102 (iw_Dm_init_4 w) := rn_Mo_init (n := 98) hr47 (by omega)
  refine J_astA o48 dX10_init_46 (Nat.le_of_ble_eq_true rfl) ?_
  refine J_foldL (L' := [some (.ref (ad 1)), some (.ref q1), some (.ref q8), some (.ref q17), some (.ref q28), some (.ref q41), none, none]) rfl ?_
  refine J_new (κ := 10) (n := 102) o48 TnA g48 kc48 dX10_init_48 mw298 mw299 mw118 rfl inWX9 tyX9_ok kA_103 ⟨by decide, by decide⟩ dfX9 hz55 hr55 rfl rfl ⟨Nat.le_of_ble_eq_true rfl, Nat.le_of_ble_eq_true rfl⟩ ?_
  intro K56 ad56 q56 sim56 o56 kc56 ag56 hq56 g56
  have f57 : ad56 1 = (ad 1) := ((ag56.1 1 (by omega)).trans f49)
  have f58 : ad56 2 = q1 := ((ag56.1 2 (by omega)).trans f50)
  have f59 : ad56 7 = q8 := ((ag56.1 7 (by omega)).trans f51)
  have f60 : ad56 14 = q17 := ((ag56.1 14 (by omega)).trans f52)
  have f61 : ad56 94 = q28 := ((ag56.1 94 (by omega)).trans f53)
  have f62 : ad56 98 = q41 := ((ag56.1 98 (by omega)).trans f54)
  have agx56 := Ag.trans agx48 ag56 (by omega) (Nat.le_refl _)
  have simx56 := KSim.trans simx48 sim56
  have hz63 : Zn 103 (iw_Dm_init_4 w) := Zn_le (m := 103) hz55 (by omega)
  have hr63 : Rn TA 103 (iw_Dm_init_4 w) := Rn_le (m := 103) hr55 (by omega)
  refine J_dup o56.1 dX10_init_51 rfl ?_
  refine J_aldA_n o56 dX10_init_52 rfl ?_
  refine J_aldA o56 dX10_init_53 rfl ?_
  refine J_aldA o56 dX10_init_55 rfl ?_
  refine J_init (n := 103) (n' := 106) o56 TnA g56 kc56 dX10_init_57 lkX10_28 ml_Wa_init mw301 rfl ⟨Nat.le_of_ble_eq_true rfl, Nat.le_of_ble_eq_true rfl⟩ (b1 := q56) (vs' := [.ref q1, .ref q28, .ref q41]) (c_Wa_init g56.2.1 hz63 hr63) (by rw [hq56, f58, f61, f62]) rfl (by omega) rfl (c1s_a c1s_0 (Nat.le_of_ble_eq_true rfl)) rfl rfl ⟨Nat.le_of_ble_eq_true rfl, Nat.le_of_ble_eq_true rfl⟩ ?_
  intro K64 ad64 sim64 o64 kc64 ag64 g64
  have f65 : ad64 1 = (ad 1) := ((ag64.1 1 (by omega)).trans f57)
  have f66 : ad64 2 = q1 := ((ag64.1 2 (by omega)).trans f58)
  have f67 : ad64 7 = q8 := ((ag64.1 7 (by omega)).trans f59)
  have f68 : ad64 14 = q17 := ((ag64.1 14 (by omega)).trans f60)
  have f69 : ad64 94 = q28 := ((ag64.1 94 (by omega)).trans f61)
  have f70 : ad64 98 = q41 := ((ag64.1 98 (by omega)).trans f62)
  have f71 : ad64 103 = q56 := ((ag64.1 103 (by omega)).trans hq56)
  have agx64 := Ag.trans agx56 ag64 (by omega) (Nat.le_refl _)
  have simx64 := KSim.trans simx56 sim64
  refine J_fold (w' := (iw_Dm_init_5 w)) rfl ?_
  have hz72 : Zn 106 (iw_Dm_init_5 w) := z_Wa_init hz63
  have hr72 : Rn TA 106 (iw_Dm_init_5 w) := rn_Wa_init hr63
  refine J_astA o64 dX10_init_60 (Nat.le_of_ble_eq_true rfl) ?_
  refine J_foldL (L' := [some (.ref (ad 1)), some (.ref q1), some (.ref q8), some (.ref q17), some (.ref q28), some (.ref q41), some (.ref q56), none]) rfl ?_
  refine J_aldA_n o64 dX10_init_62 rfl ?_
  refine J_aldA_n o64 dX10_init_63 rfl ?_
  refine J_t2 (rfa (S := S) f65 (by omega)) ?_
  refine J_t1 (rfa (S := S) f66 (by omega)) ?_
  refine J_putF o64 g64 dX10_init_64 fpfX10_31 (tr_kd kA_1 (by omega)) rfl rfl (by have := lt_A kA_2 (by decide); omega) (Or.inl ⟨_, rfl⟩) ?_
  refine J_fold (w' := (iw_Dm_init_6 w)) rfl ?_
  have hz73 : Zn 106 (iw_Dm_init_6 w) := Zn_up (c := 1) (k := 0) (v := (2 : Nat)) hz72 (by omega)
  have hr73 : Rn TA 106 (iw_Dm_init_6 w) := Rn_up (c := 1) (k := 0) (v := (2 : Nat)) hr72 (by omega)
  refine J_aldA_n o64 dX10_init_67 rfl ?_
  refine J_aldA_n o64 dX10_init_68 rfl ?_
  refine J_t2 (rfa (S := S) f65 (by omega)) ?_
  refine J_t1 (rfa (S := S) f67 (by omega)) ?_
  refine J_putF o64 g64 dX10_init_69 fpfX10_35 (tr_kd kA_1 (by omega)) rfl rfl (by have := lt_A kA_7 (by decide); omega) (Or.inl ⟨_, rfl⟩) ?_
  refine J_fold (w' := (iw_Dm_init_7 w)) rfl ?_
  have hz74 : Zn 106 (iw_Dm_init_7 w) := Zn_up (c := 1) (k := 1) (v := (7 : Nat)) hz73 (by omega)
  have hr74 : Rn TA 106 (iw_Dm_init_7 w) := Rn_up (c := 1) (k := 1) (v := (7 : Nat)) hr73 (by omega)
  refine J_aldA_n o64 dX10_init_72 rfl ?_
  refine J_aldA_n o64 dX10_init_73 rfl ?_
  refine J_t2 (rfa (S := S) f65 (by omega)) ?_
  refine J_t1 (rfa (S := S) f68 (by omega)) ?_
  refine J_putF o64 g64 dX10_init_74 fpfX10_39 (tr_kd kA_1 (by omega)) rfl rfl (by have := lt_A kA_14 (by decide); omega) (Or.inl ⟨_, rfl⟩) ?_
  refine J_fold (w' := (iw_Dm_init_8 w)) rfl ?_
  have hz75 : Zn 106 (iw_Dm_init_8 w) := Zn_up (c := 1) (k := 2) (v := (14 : Nat)) hz74 (by omega)
  have hr75 : Rn TA 106 (iw_Dm_init_8 w) := Rn_up (c := 1) (k := 2) (v := (14 : Nat)) hr74 (by omega)
  refine J_aldA_n o64 dX10_init_77 rfl ?_
  refine J_aldA o64 dX10_init_78 rfl ?_
  refine J_t2 (rfa (S := S) f65 (by omega)) ?_
  refine J_t1 (rfa (S := S) f69 (by omega)) ?_
  refine J_putF o64 g64 dX10_init_80 fpfX10_43 (tr_kd kA_1 (by omega)) rfl rfl (by have := lt_A kA_94 (by decide); omega) (Or.inl ⟨_, rfl⟩) ?_
  refine J_fold (w' := (iw_Dm_init_9 w)) rfl ?_
  have hz76 : Zn 106 (iw_Dm_init_9 w) := Zn_up (c := 1) (k := 3) (v := (94 : Nat)) hz75 (by omega)
  have hr76 : Rn TA 106 (iw_Dm_init_9 w) := Rn_up (c := 1) (k := 3) (v := (94 : Nat)) hr75 (by omega)
  refine J_aldA_n o64 dX10_init_83 rfl ?_
  refine J_aldA o64 dX10_init_84 rfl ?_
  refine J_t2 (rfa (S := S) f65 (by omega)) ?_
  refine J_t1 (rfa (S := S) f70 (by omega)) ?_
  refine J_putF o64 g64 dX10_init_86 fpfX10_47 (tr_kd kA_1 (by omega)) rfl rfl (by have := lt_A kA_98 (by decide); omega) (Or.inl ⟨_, rfl⟩) ?_
  refine J_fold (w' := (iw_Dm_init_10 w)) rfl ?_
  have hz77 : Zn 106 (iw_Dm_init_10 w) := Zn_up (c := 1) (k := 6) (v := (98 : Nat)) hz76 (by omega)
  have hr77 : Rn TA 106 (iw_Dm_init_10 w) := Rn_up (c := 1) (k := 6) (v := (98 : Nat)) hr76 (by omega)
  refine J_aldA_n o64 dX10_init_89 rfl ?_
  refine J_aldA o64 dX10_init_90 rfl ?_
  refine J_t2 (rfa (S := S) f65 (by omega)) ?_
  refine J_t1 (rfa (S := S) f71 (by omega)) ?_
  refine J_putF o64 g64 dX10_init_92 fpfX10_51 (tr_kd kA_1 (by omega)) rfl rfl (by have := lt_A kA_103 (by decide); omega) (Or.inl ⟨_, rfl⟩) ?_
  refine J_fold (w' := (iw_Dm_init_11 w)) rfl ?_
  have hz78 : Zn 106 (iw_Dm_init_11 w) := Zn_up (c := 1) (k := 7) (v := (103 : Nat)) hz77 (by omega)
  have hr78 : Rn TA 106 (iw_Dm_init_11 w) := Rn_up (c := 1) (k := 7) (v := (103 : Nat)) hr77 (by omega)
  refine J_aldA_n o64 dX10_init_95 rfl ?_
  refine J_new (κ := 5) (n := 106) o64 TnA g64 kc64 dX10_init_96 mw338 mw339 mw119 rfl inWX4 tyX4_ok kA_107 ⟨by decide, by decide⟩ dfX4 hz78 hr78 rfl rfl ⟨Nat.le_of_ble_eq_true rfl, Nat.le_of_ble_eq_true rfl⟩ ?_
  intro K79 ad79 q79 sim79 o79 kc79 ag79 hq79 g79
  have f80 : ad79 1 = (ad 1) := ((ag79.1 1 (by omega)).trans f65)
  have f81 : ad79 2 = q1 := ((ag79.1 2 (by omega)).trans f66)
  have f82 : ad79 7 = q8 := ((ag79.1 7 (by omega)).trans f67)
  have f83 : ad79 14 = q17 := ((ag79.1 14 (by omega)).trans f68)
  have f84 : ad79 94 = q28 := ((ag79.1 94 (by omega)).trans f69)
  have f85 : ad79 98 = q41 := ((ag79.1 98 (by omega)).trans f70)
  have f86 : ad79 103 = q56 := ((ag79.1 103 (by omega)).trans f71)
  have agx79 := Ag.trans agx64 ag79 (by omega) (Nat.le_refl _)
  have simx79 := KSim.trans simx64 sim79
  have hz87 : Zn 107 (iw_Dm_init_11 w) := Zn_le (m := 107) hz78 (by omega)
  have hr87 : Rn TA 107 (iw_Dm_init_11 w) := Rn_le (m := 107) hr78 (by omega)
  refine J_dup o79.1 dX10_init_99 rfl ?_
  refine J_aldA_n o79 dX10_init_100 rfl ?_
  refine J_aldA_n o79 dX10_init_101 rfl ?_
  refine J_aldA o79 dX10_init_102 rfl ?_
  refine J_init (n := 107) (n' := 107) o79 TnA g79 kc79 dX10_init_104 lkX10_57 ml_Mi_init mw341 rfl ⟨Nat.le_of_ble_eq_true rfl, Nat.le_of_ble_eq_true rfl⟩ (b1 := q79) (vs' := [.ref q8, .ref q17, .ref q56]) (c_Mi_init g79.2.1 hz87 hr87) (by rw [hq79, f82, f83, f86]) rfl (by omega) rfl (c1s_a (c1s_a c1s_0 (Nat.le_of_ble_eq_true rfl)) (Nat.le_of_ble_eq_true rfl)) rfl rfl ⟨Nat.le_of_ble_eq_true rfl, Nat.le_of_ble_eq_true rfl⟩ ?_
  intro K88 ad88 sim88 o88 kc88 ag88 g88
  have f89 : ad88 1 = (ad 1) := ((ag88.1 1 (by omega)).trans f80)
  have f90 : ad88 2 = q1 := ((ag88.1 2 (by omega)).trans f81)
  have f91 : ad88 7 = q8 := ((ag88.1 7 (by omega)).trans f82)
  have f92 : ad88 14 = q17 := ((ag88.1 14 (by omega)).trans f83)
  have f93 : ad88 94 = q28 := ((ag88.1 94 (by omega)).trans f84)
  have f94 : ad88 98 = q41 := ((ag88.1 98 (by omega)).trans f85)
  have f95 : ad88 103 = q56 := ((ag88.1 103 (by omega)).trans f86)
  have f96 : ad88 107 = q79 := ((ag88.1 107 (by omega)).trans hq79)
  have agx88 := Ag.trans agx79 ag88 (by omega) (Nat.le_refl _)
  have simx88 := KSim.trans simx79 sim88
  refine J_fold (w' := (iw_Dm_init_12 w)) rfl ?_
  have hz97 : Zn 107 (iw_Dm_init_12 w) := z_Mi_init hz87
  have hr97 : Rn TA 107 (iw_Dm_init_12 w) := rn_Mi_init hr87
  refine J_t2 (rfa (S := S) f89 (by omega)) ?_
  refine J_t1 (rfa (S := S) f96 (by omega)) ?_
  refine J_putF o88 g88 dX10_init_107 fpfX10_60 (tr_kd kA_1 (by omega)) rfl rfl (by have := lt_A kA_107 (by decide); omega) (Or.inl ⟨_, rfl⟩) ?_
  refine J_fold (w' := (iw_Dm_init_13 w)) rfl ?_
  have hz98 : Zn 107 (iw_Dm_init_13 w) := Zn_up (c := 1) (k := 8) (v := (107 : Nat)) hz97 (by omega)
  have hr98 : Rn TA 107 (iw_Dm_init_13 w) := Rn_up (c := 1) (k := 8) (v := (107 : Nat)) hr97 (by omega)
  refine J_aldA_n o88 dX10_init_110 rfl ?_
  refine J_iconst o88.1 dX10_init_111 ?_
  refine J_newO (N := 4) (n := 107) (i := 1) (Or.inr ⟨rfl, rfl⟩) o88 TnA g88 kc88 dX10_init_112 mw268 mt354 kA_108 (Int.ofNat.inj (zA_108 : ((TA.ln 108 : Nat) : Int) = ((4 : Nat) : Int))) (by decide) hz98 hr98 rfl rfl ⟨Nat.le_of_ble_eq_true rfl, Nat.le_of_ble_eq_true rfl⟩ ?_
  intro K99 ad99 q99 sim99 o99 kc99 ag99 hq99 g99
  have f100 : ad99 1 = (ad 1) := ((ag99.1 1 (by omega)).trans f89)
  have f101 : ad99 2 = q1 := ((ag99.1 2 (by omega)).trans f90)
  have f102 : ad99 7 = q8 := ((ag99.1 7 (by omega)).trans f91)
  have f103 : ad99 14 = q17 := ((ag99.1 14 (by omega)).trans f92)
  have f104 : ad99 94 = q28 := ((ag99.1 94 (by omega)).trans f93)
  have f105 : ad99 98 = q41 := ((ag99.1 98 (by omega)).trans f94)
  have f106 : ad99 103 = q56 := ((ag99.1 103 (by omega)).trans f95)
  have agx99 := Ag.trans agx88 ag99 (by omega) (Nat.le_refl _)
  have simx99 := KSim.trans simx88 sim99
  have hz107 : Zn 108 (iw_Dm_init_13 w) := Zn_le (m := 108) hz98 (by omega)
  have hr107 : Rn TA 108 (iw_Dm_init_13 w) := Rn_le (m := 108) hr98 (by omega)
  refine J_t2 (rfa (S := S) f100 (by omega)) ?_
  refine J_t1 (rfa (S := S) hq99 (by omega)) ?_
  refine J_putF o99 g99 dX10_init_115 fpfX10_64 (tr_kd kA_1 (by omega)) rfl rfl (by have := lt_A kA_108 (by decide); omega) (Or.inr ⟨_, rfl⟩) ?_
  refine J_fold (w' := (iw_Dm_init_14 w)) rfl ?_
  have hz108 : Zn 108 (iw_Dm_init_14 w) := Zn_up (c := 1) (k := 4) (v := (108 : Nat)) hz107 (by omega)
  have hr108 : Rn TA 108 (iw_Dm_init_14 w) := Rn_up (c := 1) (k := 4) (v := (108 : Nat)) hr107 (by omega)
  refine J_aldA_n o99 dX10_init_118 rfl ?_
  refine J_iconst o99.1 dX10_init_119 ?_
  refine J_newO (N := 4) (n := 108) (i := 1) (Or.inr ⟨rfl, rfl⟩) o99 TnA g99 kc99 dX10_init_120 mw268 mt354 kA_109 (Int.ofNat.inj (zA_109 : ((TA.ln 109 : Nat) : Int) = ((4 : Nat) : Int))) (by decide) hz108 hr108 rfl rfl ⟨Nat.le_of_ble_eq_true rfl, Nat.le_of_ble_eq_true rfl⟩ ?_
  intro K109 ad109 q109 sim109 o109 kc109 ag109 hq109 g109
  have f110 : ad109 1 = (ad 1) := ((ag109.1 1 (by omega)).trans f100)
  have f111 : ad109 2 = q1 := ((ag109.1 2 (by omega)).trans f101)
  have f112 : ad109 7 = q8 := ((ag109.1 7 (by omega)).trans f102)
  have f113 : ad109 14 = q17 := ((ag109.1 14 (by omega)).trans f103)
  have f114 : ad109 94 = q28 := ((ag109.1 94 (by omega)).trans f104)
  have f115 : ad109 98 = q41 := ((ag109.1 98 (by omega)).trans f105)
  have f116 : ad109 103 = q56 := ((ag109.1 103 (by omega)).trans f106)
  have agx109 := Ag.trans agx99 ag109 (by omega) (Nat.le_refl _)
  have simx109 := KSim.trans simx99 sim109
  have hz117 : Zn 109 (iw_Dm_init_14 w) := Zn_le (m := 109) hz108 (by omega)
  have hr117 : Rn TA 109 (iw_Dm_init_14 w) := Rn_le (m := 109) hr108 (by omega)
  refine J_t2 (rfa (S := S) f110 (by omega)) ?_
  refine J_t1 (rfa (S := S) hq109 (by omega)) ?_
  refine J_putF o109 g109 dX10_init_123 fpfX10_68 (tr_kd kA_1 (by omega)) rfl rfl (by have := lt_A kA_109 (by decide); omega) (Or.inr ⟨_, rfl⟩) ?_
  refine J_fold (w' := (iw_Dm_init_15 w)) rfl ?_
  have hz118 : Zn 109 (iw_Dm_init_15 w) := Zn_up (c := 1) (k := 5) (v := (109 : Nat)) hz117 (by omega)
  have hr118 : Rn TA 109 (iw_Dm_init_15 w) := Rn_up (c := 1) (k := 5) (v := (109 : Nat)) hr117 (by omega)
  refine J_iconst o109.1 dX10_init_126 ?_
  refine J_istore o109.1 dX10_init_127 (Nat.le_of_ble_eq_true rfl) ?_
  refine J_foldL (L' := [some (.ref (ad 1)), some (.ref q1), some (.ref q8), some (.ref q17), some (.ref q28), some (.ref q41), some (.ref q56), some (.int (ii 0))]) rfl ?_
  refine J_iload o109.1 dX10_init_129 rfl ?_
  refine J_iconst o109.1 dX10_init_131 ?_
  refine J_icmp_ge 171 o109.1 dX10_init_132 (by decide) rl0 rl4 (fun c => absurd c (by decide)) (fun _ => ?_)
  refine J_aldA_n o109 dX10_init_135 rfl ?_
  refine J_t1 (rfa (S := S) f110 (by omega)) ?_
  refine J_getR o109.1 g109 dX10_init_136 flX10_64 (tr_kd kA_1 (by omega)) rfl ?_
  refine J_t1 (congrArg (rf (sad S ad109).ad) ((congrArg Int.toNat (iv_Dm_init_15_1_4 w)).trans (rfl : _ = 108))) ?_
  refine J_iload o109.1 dX10_init_139 rfl ?_
  refine J_new (κ := 6) (n := 109) o109 TnA g109 kc109 dX10_init_141 mw268 mw269 mw117 rfl inWX5 tyX5_ok kA_110 ⟨by decide, by decide⟩ dfX5 hz118 hr118 rfl rfl ⟨Nat.le_of_ble_eq_true rfl, Nat.le_of_ble_eq_true rfl⟩ ?_
  intro K119 ad119 q119 sim119 o119 kc119 ag119 hq119 g119
  have f120 : ad119 1 = (ad 1) := ((ag119.1 1 (by omega)).trans f110)
  have f121 : ad119 2 = q1 := ((ag119.1 2 (by omega)).trans f111)
  have f122 : ad119 7 = q8 := ((ag119.1 7 (by omega)).trans f112)
  have f123 : ad119 14 = q17 := ((ag119.1 14 (by omega)).trans f113)
  have f124 : ad119 94 = q28 := ((ag119.1 94 (by omega)).trans f114)
  have f125 : ad119 98 = q41 := ((ag119.1 98 (by omega)).trans f115)
  have f126 : ad119 103 = q56 := ((ag119.1 103 (by omega)).trans f116)
  have agx119 := Ag.trans agx109 ag119 (by omega) (Nat.le_refl _)
  have simx119 := KSim.trans simx109 sim119
  have hz127 : Zn 110 (iw_Dm_init_15 w) := Zn_le (m := 110) hz118 (by omega)
  have hr127 : Rn TA 110 (iw_Dm_init_15 w) := Rn_le (m := 110) hr118 (by omega)
  refine J_dup o119.1 dX10_init_144 rfl ?_
  refine J_aldA_n o119 dX10_init_145 rfl ?_
  refine J_init (n := 110) (n' := 114) o119 TnA g119 kc119 dX10_init_146 lkX10_25 ml_Mo_init mw271 rfl ⟨Nat.le_of_ble_eq_true rfl, Nat.le_of_ble_eq_true rfl⟩ (b1 := q119) (vs' := [.ref q1]) (c_Mo_init (n := 110) kA_110 g119.2.1 hz127 hr127 (by omega)) (by rw [hq119, f121]) rfl (by omega) rfl (c1s_a (c1s_i (c1s_r c1s_0 (Nat.le_of_ble_eq_true rfl)) (Nat.le_of_ble_eq_true rfl)) (Nat.le_of_ble_eq_true rfl)) rfl rfl ⟨Nat.le_of_ble_eq_true rfl, Nat.le_of_ble_eq_true rfl⟩ ?_
  intro K128 ad128 sim128 o128 kc128 ag128 g128
  have f129 : ad128 1 = (ad 1) := ((ag128.1 1 (by omega)).trans f120)
  have f130 : ad128 2 = q1 := ((ag128.1 2 (by omega)).trans f121)
  have f131 : ad128 7 = q8 := ((ag128.1 7 (by omega)).trans f122)
  have f132 : ad128 14 = q17 := ((ag128.1 14 (by omega)).trans f123)
  have f133 : ad128 94 = q28 := ((ag128.1 94 (by omega)).trans f124)
  have f134 : ad128 98 = q41 := ((ag128.1 98 (by omega)).trans f125)
  have f135 : ad128 103 = q56 := ((ag128.1 103 (by omega)).trans f126)
  have f136 : ad128 110 = q119 := ((ag128.1 110 (by omega)).trans hq119)
  have agx128 := Ag.trans agx119 ag128 (by omega) (Nat.le_refl _)
  have simx128 := KSim.trans simx119 sim128
  refine J_fold (w' := (iw_Dm_init_16 w)) rfl ?_
  have hz137 : Zn 114 (iw_Dm_init_16 w) := z_Mo_init (n := 110) hz127
  have hr137 : Rn TA 114 (iw_Dm_init_16 w) := rn_Mo_init (n := 110) hr127 (by omega)
  refine J_t1 (rfa (S := S) f136 (by omega)) ?_
  refine J_t3 (rf_ag (S := S) (Ag.trans ag119 ag128 (by omega) (Nat.le_refl _)) (by omega)) ?_
  refine J_aast1 o128.1 g128 dX10_init_149 (tr_kd kA_108 (by omega)) rfl rl0 zA_108 ⟨by decide, by decide⟩ (tr_kd kA_110 (by omega)) rfl ⟨by decide, by decide⟩ (by have := lt_A kA_110 (by decide); omega) ?_
  refine J_fold (w' := (iw_Dm_init_17 w)) rfl ?_
  have hz138 : Zn 114 (iw_Dm_init_17 w) := Zn_up (c := 108) (k := 0) (v := (110 : Nat)) hz137 (by omega)
  have hr138 : Rn TA 114 (iw_Dm_init_17 w) := Rn_up (c := 108) (k := 0) (v := (110 : Nat)) hr137 (by omega)
  refine J_aldA_n o128 dX10_init_150 rfl ?_
  refine J_t1 (rfa (S := S) f129 (by omega)) ?_
  refine J_getR o128.1 g128 dX10_init_151 flX10_68 (tr_kd kA_1 (by omega)) rfl ?_
  refine J_t1 (congrArg (rf (sad S ad128).ad) ((congrArg Int.toNat (iv_Dm_init_17_1_5 w)).trans (rfl : _ = 109))) ?_
  refine J_iload o128.1 dX10_init_154 rfl ?_
  refine J_new (κ := 6) (n := 114) o128 TnA g128 kc128 dX10_init_156 mw268 mw269 mw117 rfl inWX5 tyX5_ok kA_115 ⟨by decide, by decide⟩ dfX5 hz138 hr138 rfl rfl ⟨Nat.le_of_ble_eq_true rfl, Nat.le_of_ble_eq_true rfl⟩ ?_
  intro K139 ad139 q139 sim139 o139 kc139 ag139 hq139 g139
  have f140 : ad139 1 = (ad 1) := ((ag139.1 1 (by omega)).trans f129)
  have f141 : ad139 2 = q1 := ((ag139.1 2 (by omega)).trans f130)
  have f142 : ad139 7 = q8 := ((ag139.1 7 (by omega)).trans f131)
  have f143 : ad139 14 = q17 := ((ag139.1 14 (by omega)).trans f132)
  have f144 : ad139 94 = q28 := ((ag139.1 94 (by omega)).trans f133)
  have f145 : ad139 98 = q41 := ((ag139.1 98 (by omega)).trans f134)
  have f146 : ad139 103 = q56 := ((ag139.1 103 (by omega)).trans f135)
  have agx139 := Ag.trans agx128 ag139 (by omega) (Nat.le_refl _)
  have simx139 := KSim.trans simx128 sim139
  have hz147 : Zn 115 (iw_Dm_init_17 w) := Zn_le (m := 115) hz138 (by omega)
  have hr147 : Rn TA 115 (iw_Dm_init_17 w) := Rn_le (m := 115) hr138 (by omega)
  refine J_dup o139.1 dX10_init_159 rfl ?_
  refine J_aldA_n o139 dX10_init_160 rfl ?_
  refine J_init (n := 115) (n' := 119) o139 TnA g139 kc139 dX10_init_161 lkX10_25 ml_Mo_init mw271 rfl ⟨Nat.le_of_ble_eq_true rfl, Nat.le_of_ble_eq_true rfl⟩ (b1 := q139) (vs' := [.ref q1]) (c_Mo_init (n := 115) kA_115 g139.2.1 hz147 hr147 (by omega)) (by rw [hq139, f141]) rfl (by omega) rfl (c1s_a (c1s_i (c1s_r c1s_0 (Nat.le_of_ble_eq_true rfl)) (Nat.le_of_ble_eq_true rfl)) (Nat.le_of_ble_eq_true rfl)) rfl rfl ⟨Nat.le_of_ble_eq_true rfl, Nat.le_of_ble_eq_true rfl⟩ ?_
  intro K148 ad148 sim148 o148 kc148 ag148 g148
  have f149 : ad148 1 = (ad 1) := ((ag148.1 1 (by omega)).trans f140)
  have f150 : ad148 2 = q1 := ((ag148.1 2 (by omega)).trans f141)
  have f151 : ad148 7 = q8 := ((ag148.1 7 (by omega)).trans f142)
  have f152 : ad148 14 = q17 := ((ag148.1 14 (by omega)).trans f143)
  have f153 : ad148 94 = q28 := ((ag148.1 94 (by omega)).trans f144)
  have f154 : ad148 98 = q41 := ((ag148.1 98 (by omega)).trans f145)
  have f155 : ad148 103 = q56 := ((ag148.1 103 (by omega)).trans f146)
  have f156 : ad148 115 = q139 := ((ag148.1 115 (by omega)).trans hq139)
  have agx148 := Ag.trans agx139 ag148 (by omega) (Nat.le_refl _)
  have simx148 := KSim.trans simx139 sim148
  refine J_fold (w' := (iw_Dm_init_18 w)) rfl ?_
  have hz157 : Zn 119 (iw_Dm_init_18 w) := z_Mo_init (n := 115) hz147
  have hr157 : Rn TA 119 (iw_Dm_init_18 w) := rn_Mo_init (n := 115) hr147 (by omega)
  refine J_t1 (rfa (S := S) f156 (by omega)) ?_
  refine J_t3 (rf_ag (S := S) (Ag.trans ag139 ag148 (by omega) (Nat.le_refl _)) (by omega)) ?_
  refine J_aast1 o148.1 g148 dX10_init_164 (tr_kd kA_109 (by omega)) rfl rl0 zA_109 ⟨by decide, by decide⟩ (tr_kd kA_115 (by omega)) rfl ⟨by decide, by decide⟩ (by have := lt_A kA_115 (by decide); omega) ?_
  refine J_fold (w' := (iw_Dm_init_19 w)) rfl ?_
  have hz158 : Zn 119 (iw_Dm_init_19 w) := Zn_up (c := 109) (k := 0) (v := (115 : Nat)) hz157 (by omega)
  have hr158 : Rn TA 119 (iw_Dm_init_19 w) := Rn_up (c := 109) (k := 0) (v := (115 : Nat)) hr157 (by omega)
  refine J_iincC (y := 1) o148 dX10_init_165 rfl (by decide +kernel) ?_
  refine J_foldL (L' := [some (.ref (ad 1)), some (.ref q1), some (.ref q8), some (.ref q17), some (.ref q28), some (.ref q41), some (.ref q56), some (.int (ii 1))]) rfl ?_
  refine J_goto 129 o148.1 dX10_init_168 (by decide) ?_
  refine J_iload o148.1 dX10_init_129 rfl ?_
  refine J_iconst o148.1 dX10_init_131 ?_
  refine J_icmp_ge 171 o148.1 dX10_init_132 (by decide) rl1 rl4 (fun c => absurd c (by decide)) (fun _ => ?_)
  refine J_aldA_n o148 dX10_init_135 rfl ?_
  refine J_t1 (rfa (S := S) f149 (by omega)) ?_
  refine J_getR o148.1 g148 dX10_init_136 flX10_64 (tr_kd kA_1 (by omega)) rfl ?_
  refine J_t1 (congrArg (rf (sad S ad148).ad) ((congrArg Int.toNat (iv_Dm_init_19_1_4 w)).trans (rfl : _ = 108))) ?_
  refine J_iload o148.1 dX10_init_139 rfl ?_
  refine J_new (κ := 6) (n := 119) o148 TnA g148 kc148 dX10_init_141 mw268 mw269 mw117 rfl inWX5 tyX5_ok kA_120 ⟨by decide, by decide⟩ dfX5 hz158 hr158 rfl rfl ⟨Nat.le_of_ble_eq_true rfl, Nat.le_of_ble_eq_true rfl⟩ ?_
  intro K159 ad159 q159 sim159 o159 kc159 ag159 hq159 g159
  have f160 : ad159 1 = (ad 1) := ((ag159.1 1 (by omega)).trans f149)
  have f161 : ad159 2 = q1 := ((ag159.1 2 (by omega)).trans f150)
  have f162 : ad159 7 = q8 := ((ag159.1 7 (by omega)).trans f151)
  have f163 : ad159 14 = q17 := ((ag159.1 14 (by omega)).trans f152)
  have f164 : ad159 94 = q28 := ((ag159.1 94 (by omega)).trans f153)
  have f165 : ad159 98 = q41 := ((ag159.1 98 (by omega)).trans f154)
  have f166 : ad159 103 = q56 := ((ag159.1 103 (by omega)).trans f155)
  have agx159 := Ag.trans agx148 ag159 (by omega) (Nat.le_refl _)
  have simx159 := KSim.trans simx148 sim159
  have hz167 : Zn 120 (iw_Dm_init_19 w) := Zn_le (m := 120) hz158 (by omega)
  have hr167 : Rn TA 120 (iw_Dm_init_19 w) := Rn_le (m := 120) hr158 (by omega)
  refine J_dup o159.1 dX10_init_144 rfl ?_
  refine J_aldA_n o159 dX10_init_145 rfl ?_
  refine J_init (n := 120) (n' := 124) o159 TnA g159 kc159 dX10_init_146 lkX10_25 ml_Mo_init mw271 rfl ⟨Nat.le_of_ble_eq_true rfl, Nat.le_of_ble_eq_true rfl⟩ (b1 := q159) (vs' := [.ref q1]) (c_Mo_init (n := 120) kA_120 g159.2.1 hz167 hr167 (by omega)) (by rw [hq159, f161]) rfl (by omega) rfl (c1s_a (c1s_i (c1s_r c1s_0 (Nat.le_of_ble_eq_true rfl)) (Nat.le_of_ble_eq_true rfl)) (Nat.le_of_ble_eq_true rfl)) rfl rfl ⟨Nat.le_of_ble_eq_true rfl, Nat.le_of_ble_eq_true rfl⟩ ?_
  intro K168 ad168 sim168 o168 kc168 ag168 g168
  have f169 : ad168 1 = (ad 1) := ((ag168.1 1 (by omega)).trans f160)
  have f170 : ad168 2 = q1 := ((ag168.1 2 (by omega)).trans f161)
  have f171 : ad168 7 = q8 := ((ag168.1 7 (by omega)).trans f162)
  have f172 : ad168 14 = q17 := ((ag168.1 14 (by omega)).trans f163)
  have f173 : ad168 94 = q28 := ((ag168.1 94 (by omega)).trans f164)
  have f174 : ad168 98 = q41 := ((ag168.1 98 (by omega)).trans f165)
  have f175 : ad168 103 = q56 := ((ag168.1 103 (by omega)).trans f166)
  have f176 : ad168 120 = q159 := ((ag168.1 120 (by omega)).trans hq159)
  have agx168 := Ag.trans agx159 ag168 (by omega) (Nat.le_refl _)
  have simx168 := KSim.trans simx159 sim168
  refine J_fold (w' := (iw_Dm_init_20 w)) rfl ?_
  have hz177 : Zn 124 (iw_Dm_init_20 w) := z_Mo_init (n := 120) hz167
  have hr177 : Rn TA 124 (iw_Dm_init_20 w) := rn_Mo_init (n := 120) hr167 (by omega)
  refine J_t1 (rfa (S := S) f176 (by omega)) ?_
  refine J_t3 (rf_ag (S := S) (Ag.trans ag159 ag168 (by omega) (Nat.le_refl _)) (by omega)) ?_
  refine J_aast1 o168.1 g168 dX10_init_149 (tr_kd kA_108 (by omega)) rfl rl1 zA_108 ⟨by decide, by decide⟩ (tr_kd kA_120 (by omega)) rfl ⟨by decide, by decide⟩ (by have := lt_A kA_120 (by decide); omega) ?_
  refine J_fold (w' := (iw_Dm_init_21 w)) rfl ?_
  have hz178 : Zn 124 (iw_Dm_init_21 w) := Zn_up (c := 108) (k := 1) (v := (120 : Nat)) hz177 (by omega)
  have hr178 : Rn TA 124 (iw_Dm_init_21 w) := Rn_up (c := 108) (k := 1) (v := (120 : Nat)) hr177 (by omega)
  refine J_aldA_n o168 dX10_init_150 rfl ?_
  refine J_t1 (rfa (S := S) f169 (by omega)) ?_
  refine J_getR o168.1 g168 dX10_init_151 flX10_68 (tr_kd kA_1 (by omega)) rfl ?_
  refine J_t1 (congrArg (rf (sad S ad168).ad) ((congrArg Int.toNat (iv_Dm_init_21_1_5 w)).trans (rfl : _ = 109))) ?_
  refine J_iload o168.1 dX10_init_154 rfl ?_
  refine J_new (κ := 6) (n := 124) o168 TnA g168 kc168 dX10_init_156 mw268 mw269 mw117 rfl inWX5 tyX5_ok kA_125 ⟨by decide, by decide⟩ dfX5 hz178 hr178 rfl rfl ⟨Nat.le_of_ble_eq_true rfl, Nat.le_of_ble_eq_true rfl⟩ ?_
  intro K179 ad179 q179 sim179 o179 kc179 ag179 hq179 g179
  have f180 : ad179 1 = (ad 1) := ((ag179.1 1 (by omega)).trans f169)
  have f181 : ad179 2 = q1 := ((ag179.1 2 (by omega)).trans f170)
  have f182 : ad179 7 = q8 := ((ag179.1 7 (by omega)).trans f171)
  have f183 : ad179 14 = q17 := ((ag179.1 14 (by omega)).trans f172)
  have f184 : ad179 94 = q28 := ((ag179.1 94 (by omega)).trans f173)
  have f185 : ad179 98 = q41 := ((ag179.1 98 (by omega)).trans f174)
  have f186 : ad179 103 = q56 := ((ag179.1 103 (by omega)).trans f175)
  have agx179 := Ag.trans agx168 ag179 (by omega) (Nat.le_refl _)
  have simx179 := KSim.trans simx168 sim179
  have hz187 : Zn 125 (iw_Dm_init_21 w) := Zn_le (m := 125) hz178 (by omega)
  have hr187 : Rn TA 125 (iw_Dm_init_21 w) := Rn_le (m := 125) hr178 (by omega)
  refine J_dup o179.1 dX10_init_159 rfl ?_
  refine J_aldA_n o179 dX10_init_160 rfl ?_
  refine J_init (n := 125) (n' := 129) o179 TnA g179 kc179 dX10_init_161 lkX10_25 ml_Mo_init mw271 rfl ⟨Nat.le_of_ble_eq_true rfl, Nat.le_of_ble_eq_true rfl⟩ (b1 := q179) (vs' := [.ref q1]) (c_Mo_init (n := 125) kA_125 g179.2.1 hz187 hr187 (by omega)) (by rw [hq179, f181]) rfl (by omega) rfl (c1s_a (c1s_i (c1s_r c1s_0 (Nat.le_of_ble_eq_true rfl)) (Nat.le_of_ble_eq_true rfl)) (Nat.le_of_ble_eq_true rfl)) rfl rfl ⟨Nat.le_of_ble_eq_true rfl, Nat.le_of_ble_eq_true rfl⟩ ?_
  intro K188 ad188 sim188 o188 kc188 ag188 g188
  have f189 : ad188 1 = (ad 1) := ((ag188.1 1 (by omega)).trans f180)
  have f190 : ad188 2 = q1 := ((ag188.1 2 (by omega)).trans f181)
  have f191 : ad188 7 = q8 := ((ag188.1 7 (by omega)).trans f182)
  have f192 : ad188 14 = q17 := ((ag188.1 14 (by omega)).trans f183)
  have f193 : ad188 94 = q28 := ((ag188.1 94 (by omega)).trans f184)
  have f194 : ad188 98 = q41 := ((ag188.1 98 (by omega)).trans f185)
  have f195 : ad188 103 = q56 := ((ag188.1 103 (by omega)).trans f186)
  have f196 : ad188 125 = q179 := ((ag188.1 125 (by omega)).trans hq179)
  have agx188 := Ag.trans agx179 ag188 (by omega) (Nat.le_refl _)
  have simx188 := KSim.trans simx179 sim188
  refine J_fold (w' := (iw_Dm_init_22 w)) rfl ?_
  have hz197 : Zn 129 (iw_Dm_init_22 w) := z_Mo_init (n := 125) hz187
  have hr197 : Rn TA 129 (iw_Dm_init_22 w) := rn_Mo_init (n := 125) hr187 (by omega)
  refine J_t1 (rfa (S := S) f196 (by omega)) ?_
  refine J_t3 (rf_ag (S := S) (Ag.trans ag179 ag188 (by omega) (Nat.le_refl _)) (by omega)) ?_
  refine J_aast1 o188.1 g188 dX10_init_164 (tr_kd kA_109 (by omega)) rfl rl1 zA_109 ⟨by decide, by decide⟩ (tr_kd kA_125 (by omega)) rfl ⟨by decide, by decide⟩ (by have := lt_A kA_125 (by decide); omega) ?_
  refine J_fold (w' := (iw_Dm_init_23 w)) rfl ?_
  have hz198 : Zn 129 (iw_Dm_init_23 w) := Zn_up (c := 109) (k := 1) (v := (125 : Nat)) hz197 (by omega)
  have hr198 : Rn TA 129 (iw_Dm_init_23 w) := Rn_up (c := 109) (k := 1) (v := (125 : Nat)) hr197 (by omega)
  refine J_iincC (y := 2) o188 dX10_init_165 rfl (by decide +kernel) ?_
  refine J_foldL (L' := [some (.ref (ad 1)), some (.ref q1), some (.ref q8), some (.ref q17), some (.ref q28), some (.ref q41), some (.ref q56), some (.int (ii 2))]) rfl ?_
  refine J_goto 129 o188.1 dX10_init_168 (by decide) ?_
  refine J_iload o188.1 dX10_init_129 rfl ?_
  refine J_iconst o188.1 dX10_init_131 ?_
  refine J_icmp_ge 171 o188.1 dX10_init_132 (by decide) rl2 rl4 (fun c => absurd c (by decide)) (fun _ => ?_)
  refine J_aldA_n o188 dX10_init_135 rfl ?_
  refine J_t1 (rfa (S := S) f189 (by omega)) ?_
  refine J_getR o188.1 g188 dX10_init_136 flX10_64 (tr_kd kA_1 (by omega)) rfl ?_
  refine J_t1 (congrArg (rf (sad S ad188).ad) ((congrArg Int.toNat (iv_Dm_init_23_1_4 w)).trans (rfl : _ = 108))) ?_
  refine J_iload o188.1 dX10_init_139 rfl ?_
  refine J_new (κ := 6) (n := 129) o188 TnA g188 kc188 dX10_init_141 mw268 mw269 mw117 rfl inWX5 tyX5_ok kA_130 ⟨by decide, by decide⟩ dfX5 hz198 hr198 rfl rfl ⟨Nat.le_of_ble_eq_true rfl, Nat.le_of_ble_eq_true rfl⟩ ?_
  intro K199 ad199 q199 sim199 o199 kc199 ag199 hq199 g199
  have f200 : ad199 1 = (ad 1) := ((ag199.1 1 (by omega)).trans f189)
  have f201 : ad199 2 = q1 := ((ag199.1 2 (by omega)).trans f190)
  have f202 : ad199 7 = q8 := ((ag199.1 7 (by omega)).trans f191)
  have f203 : ad199 14 = q17 := ((ag199.1 14 (by omega)).trans f192)
  have f204 : ad199 94 = q28 := ((ag199.1 94 (by omega)).trans f193)
  have f205 : ad199 98 = q41 := ((ag199.1 98 (by omega)).trans f194)
  have f206 : ad199 103 = q56 := ((ag199.1 103 (by omega)).trans f195)
  have agx199 := Ag.trans agx188 ag199 (by omega) (Nat.le_refl _)
  have simx199 := KSim.trans simx188 sim199
  have hz207 : Zn 130 (iw_Dm_init_23 w) := Zn_le (m := 130) hz198 (by omega)
  have hr207 : Rn TA 130 (iw_Dm_init_23 w) := Rn_le (m := 130) hr198 (by omega)
  refine J_dup o199.1 dX10_init_144 rfl ?_
  refine J_aldA_n o199 dX10_init_145 rfl ?_
  refine J_init (n := 130) (n' := 134) o199 TnA g199 kc199 dX10_init_146 lkX10_25 ml_Mo_init mw271 rfl ⟨Nat.le_of_ble_eq_true rfl, Nat.le_of_ble_eq_true rfl⟩ (b1 := q199) (vs' := [.ref q1]) (c_Mo_init (n := 130) kA_130 g199.2.1 hz207 hr207 (by omega)) (by rw [hq199, f201]) rfl (by omega) rfl (c1s_a (c1s_i (c1s_r c1s_0 (Nat.le_of_ble_eq_true rfl)) (Nat.le_of_ble_eq_true rfl)) (Nat.le_of_ble_eq_true rfl)) rfl rfl ⟨Nat.le_of_ble_eq_true rfl, Nat.le_of_ble_eq_true rfl⟩ ?_
  intro K208 ad208 sim208 o208 kc208 ag208 g208
  have f209 : ad208 1 = (ad 1) := ((ag208.1 1 (by omega)).trans f200)
  have f210 : ad208 2 = q1 := ((ag208.1 2 (by omega)).trans f201)
  have f211 : ad208 7 = q8 := ((ag208.1 7 (by omega)).trans f202)
  have f212 : ad208 14 = q17 := ((ag208.1 14 (by omega)).trans f203)
  have f213 : ad208 94 = q28 := ((ag208.1 94 (by omega)).trans f204)
  have f214 : ad208 98 = q41 := ((ag208.1 98 (by omega)).trans f205)
  have f215 : ad208 103 = q56 := ((ag208.1 103 (by omega)).trans f206)
  have f216 : ad208 130 = q199 := ((ag208.1 130 (by omega)).trans hq199)
  have agx208 := Ag.trans agx199 ag208 (by omega) (Nat.le_refl _)
  have simx208 := KSim.trans simx199 sim208
  refine J_fold (w' := (iw_Dm_init_24 w)) rfl ?_
  have hz217 : Zn 134 (iw_Dm_init_24 w) := z_Mo_init (n := 130) hz207
  have hr217 : Rn TA 134 (iw_Dm_init_24 w) := rn_Mo_init (n := 130) hr207 (by omega)
  refine J_t1 (rfa (S := S) f216 (by omega)) ?_
  refine J_t3 (rf_ag (S := S) (Ag.trans ag199 ag208 (by omega) (Nat.le_refl _)) (by omega)) ?_
  refine J_aast1 o208.1 g208 dX10_init_149 (tr_kd kA_108 (by omega)) rfl rl2 zA_108 ⟨by decide, by decide⟩ (tr_kd kA_130 (by omega)) rfl ⟨by decide, by decide⟩ (by have := lt_A kA_130 (by decide); omega) ?_
  refine J_fold (w' := (iw_Dm_init_25 w)) rfl ?_
  have hz218 : Zn 134 (iw_Dm_init_25 w) := Zn_up (c := 108) (k := 2) (v := (130 : Nat)) hz217 (by omega)
  have hr218 : Rn TA 134 (iw_Dm_init_25 w) := Rn_up (c := 108) (k := 2) (v := (130 : Nat)) hr217 (by omega)
  refine J_aldA_n o208 dX10_init_150 rfl ?_
  refine J_t1 (rfa (S := S) f209 (by omega)) ?_
  refine J_getR o208.1 g208 dX10_init_151 flX10_68 (tr_kd kA_1 (by omega)) rfl ?_
  refine J_t1 (congrArg (rf (sad S ad208).ad) ((congrArg Int.toNat (iv_Dm_init_25_1_5 w)).trans (rfl : _ = 109))) ?_
  refine J_iload o208.1 dX10_init_154 rfl ?_
  refine J_new (κ := 6) (n := 134) o208 TnA g208 kc208 dX10_init_156 mw268 mw269 mw117 rfl inWX5 tyX5_ok kA_135 ⟨by decide, by decide⟩ dfX5 hz218 hr218 rfl rfl ⟨Nat.le_of_ble_eq_true rfl, Nat.le_of_ble_eq_true rfl⟩ ?_
  intro K219 ad219 q219 sim219 o219 kc219 ag219 hq219 g219
  have f220 : ad219 1 = (ad 1) := ((ag219.1 1 (by omega)).trans f209)
  have f221 : ad219 2 = q1 := ((ag219.1 2 (by omega)).trans f210)
  have f222 : ad219 7 = q8 := ((ag219.1 7 (by omega)).trans f211)
  have f223 : ad219 14 = q17 := ((ag219.1 14 (by omega)).trans f212)
  have f224 : ad219 94 = q28 := ((ag219.1 94 (by omega)).trans f213)
  have f225 : ad219 98 = q41 := ((ag219.1 98 (by omega)).trans f214)
  have f226 : ad219 103 = q56 := ((ag219.1 103 (by omega)).trans f215)
  have agx219 := Ag.trans agx208 ag219 (by omega) (Nat.le_refl _)
  have simx219 := KSim.trans simx208 sim219
  have hz227 : Zn 135 (iw_Dm_init_25 w) := Zn_le (m := 135) hz218 (by omega)
  have hr227 : Rn TA 135 (iw_Dm_init_25 w) := Rn_le (m := 135) hr218 (by omega)
  refine J_dup o219.1 dX10_init_159 rfl ?_
  refine J_aldA_n o219 dX10_init_160 rfl ?_
  refine J_init (n := 135) (n' := 139) o219 TnA g219 kc219 dX10_init_161 lkX10_25 ml_Mo_init mw271 rfl ⟨Nat.le_of_ble_eq_true rfl, Nat.le_of_ble_eq_true rfl⟩ (b1 := q219) (vs' := [.ref q1]) (c_Mo_init (n := 135) kA_135 g219.2.1 hz227 hr227 (by omega)) (by rw [hq219, f221]) rfl (by omega) rfl (c1s_a (c1s_i (c1s_r c1s_0 (Nat.le_of_ble_eq_true rfl)) (Nat.le_of_ble_eq_true rfl)) (Nat.le_of_ble_eq_true rfl)) rfl rfl ⟨Nat.le_of_ble_eq_true rfl, Nat.le_of_ble_eq_true rfl⟩ ?_
  intro K228 ad228 sim228 o228 kc228 ag228 g228
  have f229 : ad228 1 = (ad 1) := ((ag228.1 1 (by omega)).trans f220)
  have f230 : ad228 2 = q1 := ((ag228.1 2 (by omega)).trans f221)
  have f231 : ad228 7 = q8 := ((ag228.1 7 (by omega)).trans f222)
  have f232 : ad228 14 = q17 := ((ag228.1 14 (by omega)).trans f223)
  have f233 : ad228 94 = q28 := ((ag228.1 94 (by omega)).trans f224)
  have f234 : ad228 98 = q41 := ((ag228.1 98 (by omega)).trans f225)
  have f235 : ad228 103 = q56 := ((ag228.1 103 (by omega)).trans f226)
  have f236 : ad228 135 = q219 := ((ag228.1 135 (by omega)).trans hq219)
  have agx228 := Ag.trans agx219 ag228 (by omega) (Nat.le_refl _)
  have simx228 := KSim.trans simx219 sim228
  refine J_fold (w' := (iw_Dm_init_26 w)) rfl ?_
  have hz237 : Zn 139 (iw_Dm_init_26 w) := z_Mo_init (n := 135) hz227
  have hr237 : Rn TA 139 (iw_Dm_init_26 w) := rn_Mo_init (n := 135) hr227 (by omega)
  refine J_t1 (rfa (S := S) f236 (by omega)) ?_
  refine J_t3 (rf_ag (S := S) (Ag.trans ag219 ag228 (by omega) (Nat.le_refl _)) (by omega)) ?_
  refine J_aast1 o228.1 g228 dX10_init_164 (tr_kd kA_109 (by omega)) rfl rl2 zA_109 ⟨by decide, by decide⟩ (tr_kd kA_135 (by omega)) rfl ⟨by decide, by decide⟩ (by have := lt_A kA_135 (by decide); omega) ?_
  refine J_fold (w' := (iw_Dm_init_27 w)) rfl ?_
  have hz238 : Zn 139 (iw_Dm_init_27 w) := Zn_up (c := 109) (k := 2) (v := (135 : Nat)) hz237 (by omega)
  have hr238 : Rn TA 139 (iw_Dm_init_27 w) := Rn_up (c := 109) (k := 2) (v := (135 : Nat)) hr237 (by omega)
  refine J_iincC (y := 3) o228 dX10_init_165 rfl (by decide +kernel) ?_
  refine J_foldL (L' := [some (.ref (ad 1)), some (.ref q1), some (.ref q8), some (.ref q17), some (.ref q28), some (.ref q41), some (.ref q56), some (.int (ii 3))]) rfl ?_
  refine J_goto 129 o228.1 dX10_init_168 (by decide) ?_
  refine J_iload o228.1 dX10_init_129 rfl ?_
  refine J_iconst o228.1 dX10_init_131 ?_
  refine J_icmp_ge 171 o228.1 dX10_init_132 (by decide) rl3 rl4 (fun c => absurd c (by decide)) (fun _ => ?_)
  refine J_aldA_n o228 dX10_init_135 rfl ?_
  refine J_t1 (rfa (S := S) f229 (by omega)) ?_
  refine J_getR o228.1 g228 dX10_init_136 flX10_64 (tr_kd kA_1 (by omega)) rfl ?_
  refine J_t1 (congrArg (rf (sad S ad228).ad) ((congrArg Int.toNat (iv_Dm_init_27_1_4 w)).trans (rfl : _ = 108))) ?_
  refine J_iload o228.1 dX10_init_139 rfl ?_
  refine J_new (κ := 6) (n := 139) o228 TnA g228 kc228 dX10_init_141 mw268 mw269 mw117 rfl inWX5 tyX5_ok kA_140 ⟨by decide, by decide⟩ dfX5 hz238 hr238 rfl rfl ⟨Nat.le_of_ble_eq_true rfl, Nat.le_of_ble_eq_true rfl⟩ ?_
  intro K239 ad239 q239 sim239 o239 kc239 ag239 hq239 g239
  have f240 : ad239 1 = (ad 1) := ((ag239.1 1 (by omega)).trans f229)
  have f241 : ad239 2 = q1 := ((ag239.1 2 (by omega)).trans f230)
  have f242 : ad239 7 = q8 := ((ag239.1 7 (by omega)).trans f231)
  have f243 : ad239 14 = q17 := ((ag239.1 14 (by omega)).trans f232)
  have f244 : ad239 94 = q28 := ((ag239.1 94 (by omega)).trans f233)
  have f245 : ad239 98 = q41 := ((ag239.1 98 (by omega)).trans f234)
  have f246 : ad239 103 = q56 := ((ag239.1 103 (by omega)).trans f235)
  have agx239 := Ag.trans agx228 ag239 (by omega) (Nat.le_refl _)
  have simx239 := KSim.trans simx228 sim239
  have hz247 : Zn 140 (iw_Dm_init_27 w) := Zn_le (m := 140) hz238 (by omega)
  have hr247 : Rn TA 140 (iw_Dm_init_27 w) := Rn_le (m := 140) hr238 (by omega)
  refine J_dup o239.1 dX10_init_144 rfl ?_
  refine J_aldA_n o239 dX10_init_145 rfl ?_
  refine J_init (n := 140) (n' := 144) o239 TnA g239 kc239 dX10_init_146 lkX10_25 ml_Mo_init mw271 rfl ⟨Nat.le_of_ble_eq_true rfl, Nat.le_of_ble_eq_true rfl⟩ (b1 := q239) (vs' := [.ref q1]) (c_Mo_init (n := 140) kA_140 g239.2.1 hz247 hr247 (by omega)) (by rw [hq239, f241]) rfl (by omega) rfl (c1s_a (c1s_i (c1s_r c1s_0 (Nat.le_of_ble_eq_true rfl)) (Nat.le_of_ble_eq_true rfl)) (Nat.le_of_ble_eq_true rfl)) rfl rfl ⟨Nat.le_of_ble_eq_true rfl, Nat.le_of_ble_eq_true rfl⟩ ?_
  intro K248 ad248 sim248 o248 kc248 ag248 g248
  have f249 : ad248 1 = (ad 1) := ((ag248.1 1 (by omega)).trans f240)
  have f250 : ad248 2 = q1 := ((ag248.1 2 (by omega)).trans f241)
  have f251 : ad248 7 = q8 := ((ag248.1 7 (by omega)).trans f242)
  have f252 : ad248 14 = q17 := ((ag248.1 14 (by omega)).trans f243)
  have f253 : ad248 94 = q28 := ((ag248.1 94 (by omega)).trans f244)
  have f254 : ad248 98 = q41 := ((ag248.1 98 (by omega)).trans f245)
  have f255 : ad248 103 = q56 := ((ag248.1 103 (by omega)).trans f246)
  have f256 : ad248 140 = q239 := ((ag248.1 140 (by omega)).trans hq239)
  have agx248 := Ag.trans agx239 ag248 (by omega) (Nat.le_refl _)
  have simx248 := KSim.trans simx239 sim248
  refine J_fold (w' := (iw_Dm_init_28 w)) rfl ?_
  have hz257 : Zn 144 (iw_Dm_init_28 w) := z_Mo_init (n := 140) hz247
  have hr257 : Rn TA 144 (iw_Dm_init_28 w) := rn_Mo_init (n := 140) hr247 (by omega)
  refine J_t1 (rfa (S := S) f256 (by omega)) ?_
  refine J_t3 (rf_ag (S := S) (Ag.trans ag239 ag248 (by omega) (Nat.le_refl _)) (by omega)) ?_
  refine J_aast1 o248.1 g248 dX10_init_149 (tr_kd kA_108 (by omega)) rfl rl3 zA_108 ⟨by decide, by decide⟩ (tr_kd kA_140 (by omega)) rfl ⟨by decide, by decide⟩ (by have := lt_A kA_140 (by decide); omega) ?_
  refine J_fold (w' := (iw_Dm_init_29 w)) rfl ?_
  have hz258 : Zn 144 (iw_Dm_init_29 w) := Zn_up (c := 108) (k := 3) (v := (140 : Nat)) hz257 (by omega)
  have hr258 : Rn TA 144 (iw_Dm_init_29 w) := Rn_up (c := 108) (k := 3) (v := (140 : Nat)) hr257 (by omega)
  refine J_aldA_n o248 dX10_init_150 rfl ?_
  refine J_t1 (rfa (S := S) f249 (by omega)) ?_
  refine J_getR o248.1 g248 dX10_init_151 flX10_68 (tr_kd kA_1 (by omega)) rfl ?_
  refine J_t1 (congrArg (rf (sad S ad248).ad) ((congrArg Int.toNat (iv_Dm_init_29_1_5 w)).trans (rfl : _ = 109))) ?_
  refine J_iload o248.1 dX10_init_154 rfl ?_
  refine J_new (κ := 6) (n := 144) o248 TnA g248 kc248 dX10_init_156 mw268 mw269 mw117 rfl inWX5 tyX5_ok kA_145 ⟨by decide, by decide⟩ dfX5 hz258 hr258 rfl rfl ⟨Nat.le_of_ble_eq_true rfl, Nat.le_of_ble_eq_true rfl⟩ ?_
  intro K259 ad259 q259 sim259 o259 kc259 ag259 hq259 g259
  have f260 : ad259 1 = (ad 1) := ((ag259.1 1 (by omega)).trans f249)
  have f261 : ad259 2 = q1 := ((ag259.1 2 (by omega)).trans f250)
  have f262 : ad259 7 = q8 := ((ag259.1 7 (by omega)).trans f251)
  have f263 : ad259 14 = q17 := ((ag259.1 14 (by omega)).trans f252)
  have f264 : ad259 94 = q28 := ((ag259.1 94 (by omega)).trans f253)
  have f265 : ad259 98 = q41 := ((ag259.1 98 (by omega)).trans f254)
  have f266 : ad259 103 = q56 := ((ag259.1 103 (by omega)).trans f255)
  have agx259 := Ag.trans agx248 ag259 (by omega) (Nat.le_refl _)
  have simx259 := KSim.trans simx248 sim259
  have hz267 : Zn 145 (iw_Dm_init_29 w) := Zn_le (m := 145) hz258 (by omega)
  have hr267 : Rn TA 145 (iw_Dm_init_29 w) := Rn_le (m := 145) hr258 (by omega)
  refine J_dup o259.1 dX10_init_159 rfl ?_
  refine J_aldA_n o259 dX10_init_160 rfl ?_
  refine J_init (n := 145) (n' := 149) o259 TnA g259 kc259 dX10_init_161 lkX10_25 ml_Mo_init mw271 rfl ⟨Nat.le_of_ble_eq_true rfl, Nat.le_of_ble_eq_true rfl⟩ (b1 := q259) (vs' := [.ref q1]) (c_Mo_init (n := 145) kA_145 g259.2.1 hz267 hr267 (by omega)) (by rw [hq259, f261]) rfl (by omega) rfl (c1s_a (c1s_i (c1s_r c1s_0 (Nat.le_of_ble_eq_true rfl)) (Nat.le_of_ble_eq_true rfl)) (Nat.le_of_ble_eq_true rfl)) rfl rfl ⟨Nat.le_of_ble_eq_true rfl, Nat.le_of_ble_eq_true rfl⟩ ?_
  intro K268 ad268 sim268 o268 kc268 ag268 g268
  have f269 : ad268 1 = (ad 1) := ((ag268.1 1 (by omega)).trans f260)
  have f270 : ad268 2 = q1 := ((ag268.1 2 (by omega)).trans f261)
  have f271 : ad268 7 = q8 := ((ag268.1 7 (by omega)).trans f262)
  have f272 : ad268 14 = q17 := ((ag268.1 14 (by omega)).trans f263)
  have f273 : ad268 94 = q28 := ((ag268.1 94 (by omega)).trans f264)
  have f274 : ad268 98 = q41 := ((ag268.1 98 (by omega)).trans f265)
  have f275 : ad268 103 = q56 := ((ag268.1 103 (by omega)).trans f266)
  have f276 : ad268 145 = q259 := ((ag268.1 145 (by omega)).trans hq259)
  have agx268 := Ag.trans agx259 ag268 (by omega) (Nat.le_refl _)
  have simx268 := KSim.trans simx259 sim268
  refine J_fold (w' := (iw_Dm_init_30 w)) rfl ?_
  have hz277 : Zn 149 (iw_Dm_init_30 w) := z_Mo_init (n := 145) hz267
  have hr277 : Rn TA 149 (iw_Dm_init_30 w) := rn_Mo_init (n := 145) hr267 (by omega)
  refine J_t1 (rfa (S := S) f276 (by omega)) ?_
  refine J_t3 (rf_ag (S := S) (Ag.trans ag259 ag268 (by omega) (Nat.le_refl _)) (by omega)) ?_
  refine J_aast1 o268.1 g268 dX10_init_164 (tr_kd kA_109 (by omega)) rfl rl3 zA_109 ⟨by decide, by decide⟩ (tr_kd kA_145 (by omega)) rfl ⟨by decide, by decide⟩ (by have := lt_A kA_145 (by decide); omega) ?_
  refine J_fold (w' := (iw_Dm_init_31 w)) rfl ?_
  have hz278 : Zn 149 (iw_Dm_init_31 w) := Zn_up (c := 109) (k := 3) (v := (145 : Nat)) hz277 (by omega)
  have hr278 : Rn TA 149 (iw_Dm_init_31 w) := Rn_up (c := 109) (k := 3) (v := (145 : Nat)) hr277 (by omega)
  refine J_iincC (y := 4) o268 dX10_init_165 rfl (by decide +kernel) ?_
  refine J_foldL (L' := [some (.ref (ad 1)), some (.ref q1), some (.ref q8), some (.ref q17), some (.ref q28), some (.ref q41), some (.ref q56), some (.int (ii 4))]) rfl ?_
  refine J_goto 129 o268.1 dX10_init_168 (by decide) ?_
  refine J_iload o268.1 dX10_init_129 rfl ?_
  refine J_iconst o268.1 dX10_init_131 ?_
  refine J_icmp_ge 171 o268.1 dX10_init_132 (by decide) rl4 rl4 (fun _ => ?_) (fun c => absurd (by decide) c)
  refine J_aldA_n o268 dX10_init_171 rfl ?_
  refine J_new (κ := 2) (n := 149) o268 TnA g268 kc268 dX10_init_172 mw355 mw356 mw120 rfl inWX1 tyX1_ok kA_150 ⟨by decide, by decide⟩ dfX1 hz278 hr278 rfl rfl ⟨Nat.le_of_ble_eq_true rfl, Nat.le_of_ble_eq_true rfl⟩ ?_
  intro K279 ad279 q279 sim279 o279 kc279 ag279 hq279 g279
  have f280 : ad279 1 = (ad 1) := ((ag279.1 1 (by omega)).trans f269)
  have f281 : ad279 2 = q1 := ((ag279.1 2 (by omega)).trans f270)
  have f282 : ad279 7 = q8 := ((ag279.1 7 (by omega)).trans f271)
  have f283 : ad279 14 = q17 := ((ag279.1 14 (by omega)).trans f272)
  have f284 : ad279 94 = q28 := ((ag279.1 94 (by omega)).trans f273)
  have f285 : ad279 98 = q41 := ((ag279.1 98 (by omega)).trans f274)
  have f286 : ad279 103 = q56 := ((ag279.1 103 (by omega)).trans f275)
  have agx279 := Ag.trans agx268 ag279 (by omega) (Nat.le_refl _)
  have simx279 := KSim.trans simx268 sim279
  have hz287 : Zn 150 (iw_Dm_init_31 w) := Zn_le (m := 150) hz278 (by omega)
  have hr287 : Rn TA 150 (iw_Dm_init_31 w) := Rn_le (m := 150) hr278 (by omega)
  refine J_dup o279.1 dX10_init_175 rfl ?_
  refine J_init (n := 150) (n' := 151) o279 TnA g279 kc279 dX10_init_176 lkX10_73 ml_Co_init mw358 rfl ⟨Nat.le_of_ble_eq_true rfl, Nat.le_of_ble_eq_true rfl⟩ (b1 := q279) (vs' := []) (c_Co_init g279.2.1 hz287 hr287) (by rw [hq279]) rfl (by omega) rfl (c1s_a (c1s_a c1s_0 (Nat.le_of_ble_eq_true rfl)) (Nat.le_of_ble_eq_true rfl)) rfl rfl ⟨Nat.le_of_ble_eq_true rfl, Nat.le_of_ble_eq_true rfl⟩ ?_
  intro K288 ad288 sim288 o288 kc288 ag288 g288
  have f289 : ad288 1 = (ad 1) := ((ag288.1 1 (by omega)).trans f280)
  have f290 : ad288 2 = q1 := ((ag288.1 2 (by omega)).trans f281)
  have f291 : ad288 7 = q8 := ((ag288.1 7 (by omega)).trans f282)
  have f292 : ad288 14 = q17 := ((ag288.1 14 (by omega)).trans f283)
  have f293 : ad288 94 = q28 := ((ag288.1 94 (by omega)).trans f284)
  have f294 : ad288 98 = q41 := ((ag288.1 98 (by omega)).trans f285)
  have f295 : ad288 103 = q56 := ((ag288.1 103 (by omega)).trans f286)
  have f296 : ad288 150 = q279 := ((ag288.1 150 (by omega)).trans hq279)
  have agx288 := Ag.trans agx279 ag288 (by omega) (Nat.le_refl _)
  have simx288 := KSim.trans simx279 sim288
  refine J_fold (w' := (iw_Dm_init_32 w)) rfl ?_
  have hz297 : Zn 151 (iw_Dm_init_32 w) := z_Co_init hz287
  have hr297 : Rn TA 151 (iw_Dm_init_32 w) := rn_Co_init hr287
  refine J_t2 (rfa (S := S) f289 (by omega)) ?_
  refine J_t1 (rfa (S := S) f296 (by omega)) ?_
  refine J_putF o288 g288 dX10_init_179 fpfX10_74 (tr_kd kA_1 (by omega)) rfl rfl (by have := lt_A kA_150 (by decide); omega) (Or.inl ⟨_, rfl⟩) ?_
  refine J_fold (w' := (iw_Dm_init_33 w)) rfl ?_
  have hz298 : Zn 151 (iw_Dm_init_33 w) := Zn_up (c := 1) (k := 9) (v := (150 : Nat)) hz297 (by omega)
  have hr298 : Rn TA 151 (iw_Dm_init_33 w) := Rn_up (c := 1) (k := 9) (v := (150 : Nat)) hr297 (by omega)
  refine J_aldA_n o288 dX10_init_182 rfl ?_
  refine J_new (κ := 4) (n := 151) o288 TnA g288 kc288 dX10_init_183 mw368 mw369 mw121 rfl inWX3 tyX3_ok kA_152 ⟨by decide, by decide⟩ dfX3 hz298 hr298 rfl rfl ⟨Nat.le_of_ble_eq_true rfl, Nat.le_of_ble_eq_true rfl⟩ ?_
  intro K299 ad299 q299 sim299 o299 kc299 ag299 hq299 g299
  have f300 : ad299 1 = (ad 1) := ((ag299.1 1 (by omega)).trans f289)
  have f301 : ad299 2 = q1 := ((ag299.1 2 (by omega)).trans f290)
  have f302 : ad299 7 = q8 := ((ag299.1 7 (by omega)).trans f291)
  have f303 : ad299 14 = q17 := ((ag299.1 14 (by omega)).trans f292)
  have f304 : ad299 94 = q28 := ((ag299.1 94 (by omega)).trans f293)
  have f305 : ad299 98 = q41 := ((ag299.1 98 (by omega)).trans f294)
  have f306 : ad299 103 = q56 := ((ag299.1 103 (by omega)).trans f295)
  have agx299 := Ag.trans agx288 ag299 (by omega) (Nat.le_refl _)
  have simx299 := KSim.trans simx288 sim299
  have hz307 : Zn 152 (iw_Dm_init_33 w) := Zn_le (m := 152) hz298 (by omega)
  have hr307 : Rn TA 152 (iw_Dm_init_33 w) := Rn_le (m := 152) hr298 (by omega)
  refine J_dup o299.1 dX10_init_186 rfl ?_
  refine J_init (n := 152) (n' := 154) o299 TnA g299 kc299 dX10_init_187 lkX10_80 ml_Go_init mw371 rfl ⟨Nat.le_of_ble_eq_true rfl, Nat.le_of_ble_eq_true rfl⟩ (b1 := q299) (vs' := []) (c_Go_init g299.2.1 hz307 hr307) (by rw [hq299]) rfl (by omega) rfl (c1s_a (c1s_a c1s_0 (Nat.le_of_ble_eq_true rfl)) (Nat.le_of_ble_eq_true rfl)) rfl rfl ⟨Nat.le_of_ble_eq_true rfl, Nat.le_of_ble_eq_true rfl⟩ ?_
  intro K308 ad308 sim308 o308 kc308 ag308 g308
  have f309 : ad308 1 = (ad 1) := ((ag308.1 1 (by omega)).trans f300)
  have f310 : ad308 2 = q1 := ((ag308.1 2 (by omega)).trans f301)
  have f311 : ad308 7 = q8 := ((ag308.1 7 (by omega)).trans f302)
  have f312 : ad308 14 = q17 := ((ag308.1 14 (by omega)).trans f303)
  have f313 : ad308 94 = q28 := ((ag308.1 94 (by omega)).trans f304)
  have f314 : ad308 98 = q41 := ((ag308.1 98 (by omega)).trans f305)
  have f315 : ad308 103 = q56 := ((ag308.1 103 (by omega)).trans f306)
  have f316 : ad308 152 = q299 := ((ag308.1 152 (by omega)).trans hq299)
  have agx308 := Ag.trans agx299 ag308 (by omega) (Nat.le_refl _)
  have simx308 := KSim.trans simx299 sim308
  refine J_fold (w' := (iw_Dm_init_34 w)) rfl ?_
  have hz317 : Zn 154 (iw_Dm_init_34 w) := z_Go_init hz307
  have hr317 : Rn TA 154 (iw_Dm_init_34 w) := rn_Go_init hr307
  refine J_t2 (rfa (S := S) f309 (by omega)) ?_
  refine J_t1 (rfa (S := S) f316 (by omega)) ?_
  refine J_putF o308 g308 dX10_init_190 fpfX10_81 (tr_kd kA_1 (by omega)) rfl rfl (by have := lt_A kA_152 (by decide); omega) (Or.inl ⟨_, rfl⟩) ?_
  refine J_fold (w' := (iw_Dm_init_35 w)) rfl ?_
  have hz318 : Zn 154 (iw_Dm_init_35 w) := Zn_up (c := 1) (k := 10) (v := (152 : Nat)) hz317 (by omega)
  have hr318 : Rn TA 154 (iw_Dm_init_35 w) := Rn_up (c := 1) (k := 10) (v := (152 : Nat)) hr317 (by omega)
  refine J_aldA_n o308 dX10_init_193 rfl ?_
  refine J_new (κ := 7) (n := 154) o308 TnA g308 kc308 dX10_init_194 mw385 mw386 mw122 rfl inWX6 tyX6_ok kA_155 ⟨by decide, by decide⟩ dfX6 hz318 hr318 rfl rfl ⟨Nat.le_of_ble_eq_true rfl, Nat.le_of_ble_eq_true rfl⟩ ?_
  intro K319 ad319 q319 sim319 o319 kc319 ag319 hq319 g319
  have f320 : ad319 1 = (ad 1) := ((ag319.1 1 (by omega)).trans f309)
  have f321 : ad319 2 = q1 := ((ag319.1 2 (by omega)).trans f310)
  have f322 : ad319 7 = q8 := ((ag319.1 7 (by omega)).trans f311)
  have f323 : ad319 14 = q17 := ((ag319.1 14 (by omega)).trans f312)
  have f324 : ad319 94 = q28 := ((ag319.1 94 (by omega)).trans f313)
  have f325 : ad319 98 = q41 := ((ag319.1 98 (by omega)).trans f314)
  have f326 : ad319 103 = q56 := ((ag319.1 103 (by omega)).trans f315)
  have agx319 := Ag.trans agx308 ag319 (by omega) (Nat.le_refl _)
  have simx319 := KSim.trans simx308 sim319
  have hz327 : Zn 155 (iw_Dm_init_35 w) := Zn_le (m := 155) hz318 (by omega)
  have hr327 : Rn TA 155 (iw_Dm_init_35 w) := Rn_le (m := 155) hr318 (by omega)
  refine J_dup o319.1 dX10_init_197 rfl ?_
  refine J_init (n := 155) (n' := 157) o319 TnA g319 kc319 dX10_init_198 lkX10_87 ml_Pl_init mw388 rfl ⟨Nat.le_of_ble_eq_true rfl, Nat.le_of_ble_eq_true rfl⟩ (b1 := q319) (vs' := []) (c_Pl_init g319.2.1 hz327 hr327) (by rw [hq319]) rfl (by omega) rfl (c1s_a (c1s_a c1s_0 (Nat.le_of_ble_eq_true rfl)) (Nat.le_of_ble_eq_true rfl)) rfl rfl ⟨Nat.le_of_ble_eq_true rfl, Nat.le_of_ble_eq_true rfl⟩ ?_
  intro K328 ad328 sim328 o328 kc328 ag328 g328
  have f329 : ad328 1 = (ad 1) := ((ag328.1 1 (by omega)).trans f320)
  have f330 : ad328 2 = q1 := ((ag328.1 2 (by omega)).trans f321)
  have f331 : ad328 7 = q8 := ((ag328.1 7 (by omega)).trans f322)
  have f332 : ad328 14 = q17 := ((ag328.1 14 (by omega)).trans f323)
  have f333 : ad328 94 = q28 := ((ag328.1 94 (by omega)).trans f324)
  have f334 : ad328 98 = q41 := ((ag328.1 98 (by omega)).trans f325)
  have f335 : ad328 103 = q56 := ((ag328.1 103 (by omega)).trans f326)
  have f336 : ad328 155 = q319 := ((ag328.1 155 (by omega)).trans hq319)
  have agx328 := Ag.trans agx319 ag328 (by omega) (Nat.le_refl _)
  have simx328 := KSim.trans simx319 sim328
  refine J_fold (w' := (iw_Dm_init_36 w)) rfl ?_
  have hz337 : Zn 157 (iw_Dm_init_36 w) := z_Pl_init hz327
  have hr337 : Rn TA 157 (iw_Dm_init_36 w) := rn_Pl_init hr327
  refine J_t2 (rfa (S := S) f329 (by omega)) ?_
  refine J_t1 (rfa (S := S) f336 (by omega)) ?_
  refine J_putF o328 g328 dX10_init_201 fpfX10_88 (tr_kd kA_1 (by omega)) rfl rfl (by have := lt_A kA_155 (by decide); omega) (Or.inl ⟨_, rfl⟩) ?_
  refine J_fold (w' := (iw_Dm_init_37 w)) rfl ?_
  have hz338 : Zn 157 (iw_Dm_init_37 w) := Zn_up (c := 1) (k := 11) (v := (155 : Nat)) hz337 (by omega)
  have hr338 : Rn TA 157 (iw_Dm_init_37 w) := Rn_up (c := 1) (k := 11) (v := (155 : Nat)) hr337 (by omega)
  exact hret _ _ _ _ _ _ simx328 kc328 ⟨Nat.le_of_ble_eq_true rfl, Nat.le_of_ble_eq_true rfl⟩ agx328 g328 dX10_init_204
theorem z_Dm_init {w : World} (hz : Zn 1 w) : Zn 157 (i_Dm_init w) := by
  have hz3 : Zn 2 w := Zn_le (m := 2) hz (by omega)
  have hz7 : Zn 6 (iw_Dm_init_0 w) := z_Sc_init hz3
  have hz11 : Zn 7 (iw_Dm_init_0 w) := Zn_le (m := 7) hz7 (by omega)
  have hz16 : Zn 13 (iw_Dm_init_1 w) := z_Fa_init hz11
  have hz21 : Zn 14 (iw_Dm_init_1 w) := Zn_le (m := 14) hz16 (by omega)
  have hz27 : Zn 93 (iw_Dm_init_2 w) := z_Pr_init hz21
  have hz33 : Zn 94 (iw_Dm_init_2 w) := Zn_le (m := 94) hz27 (by omega)
  have hz40 : Zn 97 (iw_Dm_init_3 w) := z_Bo_init (n := 94) hz33
  have hz47 : Zn 98 (iw_Dm_init_3 w) := Zn_le (m := 98) hz40 (by omega)
  have hz55 : Zn 102 (iw_Dm_init_4 w) := z_Mo_init (n := 98) hz47
  have hz63 : Zn 103 (iw_Dm_init_4 w) := Zn_le (m := 103) hz55 (by omega)
  have hz72 : Zn 106 (iw_Dm_init_5 w) := z_Wa_init hz63
  have hz73 : Zn 106 (iw_Dm_init_6 w) := Zn_up (c := 1) (k := 0) (v := (2 : Nat)) hz72 (by omega)
  have hz74 : Zn 106 (iw_Dm_init_7 w) := Zn_up (c := 1) (k := 1) (v := (7 : Nat)) hz73 (by omega)
  have hz75 : Zn 106 (iw_Dm_init_8 w) := Zn_up (c := 1) (k := 2) (v := (14 : Nat)) hz74 (by omega)
  have hz76 : Zn 106 (iw_Dm_init_9 w) := Zn_up (c := 1) (k := 3) (v := (94 : Nat)) hz75 (by omega)
  have hz77 : Zn 106 (iw_Dm_init_10 w) := Zn_up (c := 1) (k := 6) (v := (98 : Nat)) hz76 (by omega)
  have hz78 : Zn 106 (iw_Dm_init_11 w) := Zn_up (c := 1) (k := 7) (v := (103 : Nat)) hz77 (by omega)
  have hz87 : Zn 107 (iw_Dm_init_11 w) := Zn_le (m := 107) hz78 (by omega)
  have hz97 : Zn 107 (iw_Dm_init_12 w) := z_Mi_init hz87
  have hz98 : Zn 107 (iw_Dm_init_13 w) := Zn_up (c := 1) (k := 8) (v := (107 : Nat)) hz97 (by omega)
  have hz107 : Zn 108 (iw_Dm_init_13 w) := Zn_le (m := 108) hz98 (by omega)
  have hz108 : Zn 108 (iw_Dm_init_14 w) := Zn_up (c := 1) (k := 4) (v := (108 : Nat)) hz107 (by omega)
  have hz117 : Zn 109 (iw_Dm_init_14 w) := Zn_le (m := 109) hz108 (by omega)
  have hz118 : Zn 109 (iw_Dm_init_15 w) := Zn_up (c := 1) (k := 5) (v := (109 : Nat)) hz117 (by omega)
  have hz127 : Zn 110 (iw_Dm_init_15 w) := Zn_le (m := 110) hz118 (by omega)
  have hz137 : Zn 114 (iw_Dm_init_16 w) := z_Mo_init (n := 110) hz127
  have hz138 : Zn 114 (iw_Dm_init_17 w) := Zn_up (c := 108) (k := 0) (v := (110 : Nat)) hz137 (by omega)
  have hz147 : Zn 115 (iw_Dm_init_17 w) := Zn_le (m := 115) hz138 (by omega)
  have hz157 : Zn 119 (iw_Dm_init_18 w) := z_Mo_init (n := 115) hz147
  have hz158 : Zn 119 (iw_Dm_init_19 w) := Zn_up (c := 109) (k := 0) (v := (115 : Nat)) hz157 (by omega)
  have hz167 : Zn 120 (iw_Dm_init_19 w) := Zn_le (m := 120) hz158 (by omega)
  have hz177 : Zn 124 (iw_Dm_init_20 w) := z_Mo_init (n := 120) hz167
  have hz178 : Zn 124 (iw_Dm_init_21 w) := Zn_up (c := 108) (k := 1) (v := (120 : Nat)) hz177 (by omega)
  have hz187 : Zn 125 (iw_Dm_init_21 w) := Zn_le (m := 125) hz178 (by omega)
  have hz197 : Zn 129 (iw_Dm_init_22 w) := z_Mo_init (n := 125) hz187
  have hz198 : Zn 129 (iw_Dm_init_23 w) := Zn_up (c := 109) (k := 1) (v := (125 : Nat)) hz197 (by omega)
  have hz207 : Zn 130 (iw_Dm_init_23 w) := Zn_le (m := 130) hz198 (by omega)
  have hz217 : Zn 134 (iw_Dm_init_24 w) := z_Mo_init (n := 130) hz207
  have hz218 : Zn 134 (iw_Dm_init_25 w) := Zn_up (c := 108) (k := 2) (v := (130 : Nat)) hz217 (by omega)
  have hz227 : Zn 135 (iw_Dm_init_25 w) := Zn_le (m := 135) hz218 (by omega)
  have hz237 : Zn 139 (iw_Dm_init_26 w) := z_Mo_init (n := 135) hz227
  have hz238 : Zn 139 (iw_Dm_init_27 w) := Zn_up (c := 109) (k := 2) (v := (135 : Nat)) hz237 (by omega)
  have hz247 : Zn 140 (iw_Dm_init_27 w) := Zn_le (m := 140) hz238 (by omega)
  have hz257 : Zn 144 (iw_Dm_init_28 w) := z_Mo_init (n := 140) hz247
  have hz258 : Zn 144 (iw_Dm_init_29 w) := Zn_up (c := 108) (k := 3) (v := (140 : Nat)) hz257 (by omega)
  have hz267 : Zn 145 (iw_Dm_init_29 w) := Zn_le (m := 145) hz258 (by omega)
  have hz277 : Zn 149 (iw_Dm_init_30 w) := z_Mo_init (n := 145) hz267
  have hz278 : Zn 149 (iw_Dm_init_31 w) := Zn_up (c := 109) (k := 3) (v := (145 : Nat)) hz277 (by omega)
  have hz287 : Zn 150 (iw_Dm_init_31 w) := Zn_le (m := 150) hz278 (by omega)
  have hz297 : Zn 151 (iw_Dm_init_32 w) := z_Co_init hz287
  have hz298 : Zn 151 (iw_Dm_init_33 w) := Zn_up (c := 1) (k := 9) (v := (150 : Nat)) hz297 (by omega)
  have hz307 : Zn 152 (iw_Dm_init_33 w) := Zn_le (m := 152) hz298 (by omega)
  have hz317 : Zn 154 (iw_Dm_init_34 w) := z_Go_init hz307
  have hz318 : Zn 154 (iw_Dm_init_35 w) := Zn_up (c := 1) (k := 10) (v := (152 : Nat)) hz317 (by omega)
  have hz327 : Zn 155 (iw_Dm_init_35 w) := Zn_le (m := 155) hz318 (by omega)
  have hz337 : Zn 157 (iw_Dm_init_36 w) := z_Pl_init hz327
  have hz338 : Zn 157 (iw_Dm_init_37 w) := Zn_up (c := 1) (k := 11) (v := (155 : Nat)) hz337 (by omega)
  exact hz338
theorem rn_Dm_init {w : World} (hr : Rn TA 1 w) : Rn TA 157 (i_Dm_init w) := by
  have hr3 : Rn TA 2 w := Rn_le (m := 2) hr (by omega)
  have hr7 : Rn TA 6 (iw_Dm_init_0 w) := rn_Sc_init hr3
  have hr11 : Rn TA 7 (iw_Dm_init_0 w) := Rn_le (m := 7) hr7 (by omega)
  have hr16 : Rn TA 13 (iw_Dm_init_1 w) := rn_Fa_init hr11
  have hr21 : Rn TA 14 (iw_Dm_init_1 w) := Rn_le (m := 14) hr16 (by omega)
  have hr27 : Rn TA 93 (iw_Dm_init_2 w) := rn_Pr_init hr21
  have hr33 : Rn TA 94 (iw_Dm_init_2 w) := Rn_le (m := 94) hr27 (by omega)
  have hr40 : Rn TA 97 (iw_Dm_init_3 w) := rn_Bo_init (n := 94) hr33
  have hr47 : Rn TA 98 (iw_Dm_init_3 w) := Rn_le (m := 98) hr40 (by omega)
  have hr55 : Rn TA 102 (iw_Dm_init_4 w) := rn_Mo_init (n := 98) hr47 (by omega)
  have hr63 : Rn TA 103 (iw_Dm_init_4 w) := Rn_le (m := 103) hr55 (by omega)
  have hr72 : Rn TA 106 (iw_Dm_init_5 w) := rn_Wa_init hr63
  have hr73 : Rn TA 106 (iw_Dm_init_6 w) := Rn_up (c := 1) (k := 0) (v := (2 : Nat)) hr72 (by omega)
  have hr74 : Rn TA 106 (iw_Dm_init_7 w) := Rn_up (c := 1) (k := 1) (v := (7 : Nat)) hr73 (by omega)
  have hr75 : Rn TA 106 (iw_Dm_init_8 w) := Rn_up (c := 1) (k := 2) (v := (14 : Nat)) hr74 (by omega)
  have hr76 : Rn TA 106 (iw_Dm_init_9 w) := Rn_up (c := 1) (k := 3) (v := (94 : Nat)) hr75 (by omega)
  have hr77 : Rn TA 106 (iw_Dm_init_10 w) := Rn_up (c := 1) (k := 6) (v := (98 : Nat)) hr76 (by omega)
  have hr78 : Rn TA 106 (iw_Dm_init_11 w) := Rn_up (c := 1) (k := 7) (v := (103 : Nat)) hr77 (by omega)
  have hr87 : Rn TA 107 (iw_Dm_init_11 w) := Rn_le (m := 107) hr78 (by omega)
  have hr97 : Rn TA 107 (iw_Dm_init_12 w) := rn_Mi_init hr87
  have hr98 : Rn TA 107 (iw_Dm_init_13 w) := Rn_up (c := 1) (k := 8) (v := (107 : Nat)) hr97 (by omega)
  have hr107 : Rn TA 108 (iw_Dm_init_13 w) := Rn_le (m := 108) hr98 (by omega)
  have hr108 : Rn TA 108 (iw_Dm_init_14 w) := Rn_up (c := 1) (k := 4) (v := (108 : Nat)) hr107 (by omega)
  have hr117 : Rn TA 109 (iw_Dm_init_14 w) := Rn_le (m := 109) hr108 (by omega)
  have hr118 : Rn TA 109 (iw_Dm_init_15 w) := Rn_up (c := 1) (k := 5) (v := (109 : Nat)) hr117 (by omega)
  have hr127 : Rn TA 110 (iw_Dm_init_15 w) := Rn_le (m := 110) hr118 (by omega)
  have hr137 : Rn TA 114 (iw_Dm_init_16 w) := rn_Mo_init (n := 110) hr127 (by omega)
  have hr138 : Rn TA 114 (iw_Dm_init_17 w) := Rn_up (c := 108) (k := 0) (v := (110 : Nat)) hr137 (by omega)
  have hr147 : Rn TA 115 (iw_Dm_init_17 w) := Rn_le (m := 115) hr138 (by omega)
  have hr157 : Rn TA 119 (iw_Dm_init_18 w) := rn_Mo_init (n := 115) hr147 (by omega)
  have hr158 : Rn TA 119 (iw_Dm_init_19 w) := Rn_up (c := 109) (k := 0) (v := (115 : Nat)) hr157 (by omega)
  have hr167 : Rn TA 120 (iw_Dm_init_19 w) := Rn_le (m := 120) hr158 (by omega)
  have hr177 : Rn TA 124 (iw_Dm_init_20 w) := rn_Mo_init (n := 120) hr167 (by omega)
  have hr178 : Rn TA 124 (iw_Dm_init_21 w) := Rn_up (c := 108) (k := 1) (v := (120 : Nat)) hr177 (by omega)
  have hr187 : Rn TA 125 (iw_Dm_init_21 w) := Rn_le (m := 125) hr178 (by omega)
  have hr197 : Rn TA 129 (iw_Dm_init_22 w) := rn_Mo_init (n := 125) hr187 (by omega)
  have hr198 : Rn TA 129 (iw_Dm_init_23 w) := Rn_up (c := 109) (k := 1) (v := (125 : Nat)) hr197 (by omega)
  have hr207 : Rn TA 130 (iw_Dm_init_23 w) := Rn_le (m := 130) hr198 (by omega)
  have hr217 : Rn TA 134 (iw_Dm_init_24 w) := rn_Mo_init (n := 130) hr207 (by omega)
  have hr218 : Rn TA 134 (iw_Dm_init_25 w) := Rn_up (c := 108) (k := 2) (v := (130 : Nat)) hr217 (by omega)
  have hr227 : Rn TA 135 (iw_Dm_init_25 w) := Rn_le (m := 135) hr218 (by omega)
  have hr237 : Rn TA 139 (iw_Dm_init_26 w) := rn_Mo_init (n := 135) hr227 (by omega)
  have hr238 : Rn TA 139 (iw_Dm_init_27 w) := Rn_up (c := 109) (k := 2) (v := (135 : Nat)) hr237 (by omega)
  have hr247 : Rn TA 140 (iw_Dm_init_27 w) := Rn_le (m := 140) hr238 (by omega)
  have hr257 : Rn TA 144 (iw_Dm_init_28 w) := rn_Mo_init (n := 140) hr247 (by omega)
  have hr258 : Rn TA 144 (iw_Dm_init_29 w) := Rn_up (c := 108) (k := 3) (v := (140 : Nat)) hr257 (by omega)
  have hr267 : Rn TA 145 (iw_Dm_init_29 w) := Rn_le (m := 145) hr258 (by omega)
  have hr277 : Rn TA 149 (iw_Dm_init_30 w) := rn_Mo_init (n := 145) hr267 (by omega)
  have hr278 : Rn TA 149 (iw_Dm_init_31 w) := Rn_up (c := 109) (k := 3) (v := (145 : Nat)) hr277 (by omega)
  have hr287 : Rn TA 150 (iw_Dm_init_31 w) := Rn_le (m := 150) hr278 (by omega)
  have hr297 : Rn TA 151 (iw_Dm_init_32 w) := rn_Co_init hr287
  have hr298 : Rn TA 151 (iw_Dm_init_33 w) := Rn_up (c := 1) (k := 9) (v := (150 : Nat)) hr297 (by omega)
  have hr307 : Rn TA 152 (iw_Dm_init_33 w) := Rn_le (m := 152) hr298 (by omega)
  have hr317 : Rn TA 154 (iw_Dm_init_34 w) := rn_Go_init hr307
  have hr318 : Rn TA 154 (iw_Dm_init_35 w) := Rn_up (c := 1) (k := 10) (v := (152 : Nat)) hr317 (by omega)
  have hr327 : Rn TA 155 (iw_Dm_init_35 w) := Rn_le (m := 155) hr318 (by omega)
  have hr337 : Rn TA 157 (iw_Dm_init_36 w) := rn_Pl_init hr327
  have hr338 : Rn TA 157 (iw_Dm_init_37 w) := Rn_up (c := 1) (k := 11) (v := (155 : Nat)) hr337 (by omega)
  exact hr338
