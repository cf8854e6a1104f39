/-! THE TABLES of the two systems: which cell is what; printed by program -/
def kdA (c : Nat) : Nat := ([0, 11, 9, 40, 40, 40, 40, 3, 40, 40, 40, 40, 40, 41, 8, 1, 40, 40, 40, 42, 42, 40, 1, 40, 40, 40, 1, 40, 40, 40, 1, 40, 40, 40, 1, 40, 40, 40, 1, 40, 40, 40, 1, 40, 40, 40, 1, 40, 40, 40, 1, 40, 40, 40, 1, 40, 40, 40, 1, 40, 40, 40, 1, 40, 40, 40, 1, 40, 40, 40, 1, 40, 40, 40, 1, 40, 40, 40, 1, 40, 40, 40, 1, 40, 40, 40, 1, 40, 40, 40, 1, 40, 40, 40, 1, 40, 40, 40, 6, 40, 40, 40, 40, 10, 40, 40, 40, 5, 43, 43, 6, 40, 40, 40, 40, 6, 40, 40, 40, 40, 6, 40, 40, 40, 40, 6, 40, 40, 40, 40, 6, 40, 40, 40, 40, 6, 40, 40, 40, 40, 6, 40, 40, 40, 40, 6, 40, 40, 40, 40, 2, 40, 4, 40, 40, 7, 40, 40] : List Nat).getD c 0
def lnA (c : Nat) : Nat := ([0, 0, 0, 10, 10, 10, 10, 0, 24, 24, 24, 24, 24, 24, 0, 0, 5, 5, 18, 12, 6, 10, 0, 5, 5, 18, 0, 5, 5, 18, 0, 5, 5, 18, 0, 5, 5, 18, 0, 5, 5, 18, 0, 5, 5, 18, 0, 5, 5, 18, 0, 5, 5, 18, 0, 5, 5, 18, 0, 5, 5, 18, 0, 5, 5, 18, 0, 5, 5, 18, 0, 5, 5, 18, 0, 5, 5, 18, 0, 5, 5, 18, 0, 5, 5, 18, 0, 5, 5, 18, 0, 5, 5, 18, 0, 5, 5, 18, 0, 10, 48, 48, 48, 0, 8, 5, 5, 0, 4, 4, 0, 10, 48, 48, 48, 0, 10, 48, 48, 48, 0, 10, 48, 48, 48, 0, 10, 48, 48, 48, 0, 10, 48, 48, 48, 0, 10, 48, 48, 48, 0, 10, 48, 48, 48, 0, 10, 48, 48, 48, 0, 48, 0, 400, 1024, 0, 3, 3] : List Nat).getD c 0
def isrefA (κ j : Nat) : Bool := match κ with
  | 1 => [3, 4, 5].contains j
  | 2 => [1].contains j
  | 3 => [2, 3, 4, 5, 6, 7].contains j
  | 4 => [1, 2].contains j
  | 5 => [0, 1, 2].contains j
  | 6 => [0, 3, 4, 5, 6].contains j
  | 7 => [1, 2].contains j
  | 8 => [0, 1, 2, 3, 6].contains j
  | 9 => [0, 1, 2, 3].contains j
  | 10 => [0, 1, 2, 8, 9, 10].contains j
  | 11 => [0, 1, 2, 3, 4, 5, 6, 7, 8, 9, 10, 11].contains j
  | _ => false
def fxA (κ j : Nat) : Option (Bool × Nat) := match κ with
  | 1 => ([none, none, none, some (false, 1), some (false, 2), some (false, 3)] : List (Option (Bool × Nat))).getD j none
  | 2 => ([none, some (true, 151)] : List (Option (Bool × Nat))).getD j none
  | 3 => ([none, none, some (true, 8), some (true, 9), some (true, 10), some (true, 11), some (true, 12), some (true, 13)] : List (Option (Bool × Nat))).getD j none
  | 4 => ([none, some (true, 153), some (true, 154)] : List (Option (Bool × Nat))).getD j none
  | 5 => ([some (true, 7), some (true, 14), some (true, 103)] : List (Option (Bool × Nat))).getD j none
  | 6 => ([some (true, 2), none, none, some (false, 1), some (false, 2), some (false, 3), some (false, 4)] : List (Option (Bool × Nat))).getD j none
  | 7 => ([none, some (true, 156), some (true, 157)] : List (Option (Bool × Nat))).getD j none
  | 8 => ([some (true, 2), some (true, 15), some (true, 19), some (true, 20), none, none, some (true, 21), none] : List (Option (Bool × Nat))).getD j none
  | 9 => ([some (true, 3), some (true, 4), some (true, 5), some (true, 6)] : List (Option (Bool × Nat))).getD j none
  | 10 => ([some (true, 2), none, none, none, none, none, none, none, some (true, 104), some (true, 105), some (true, 106)] : List (Option (Bool × Nat))).getD j none
  | 11 => ([some (true, 2), some (true, 7), some (true, 14), some (true, 94), some (true, 108), some (true, 109), some (true, 98), some (true, 103), some (true, 107), some (true, 150), some (true, 152), some (true, 155), none] : List (Option (Bool × Nat))).getD j none
  | _ => none
abbrev TA : TT := (kdA, lnA, vwCl, isrefA, fxA, "Datalogmill$Body", "Datalogmill$Model", 157)
set_option maxRecDepth 20000 in
theorem kdA_out {c : Nat} (h : 157 < c) : kdA c = 0 := by
  unfold kdA
  rw [List.getD_eq_getElem?_getD, List.getElem?_eq_none (Nat.le_trans (Nat.le_of_ble_eq_true rfl) h)]
  rfl
theorem TnA : Tn TA := by
  intro c h
  have hc : c ≤ 157 := by
    rcases Nat.lt_or_ge 157 c with q | q
    · exact absurd (kdA_out q) h
    · exact q
  refine ⟨fun e => h ?_, hc⟩
  subst e
  rfl
theorem lt_A {c κ : Nat} (h : TA.kd c = κ) (h0 : 0 < κ) : c < 1000 := by
  have := (TnA c (by omega)).2
  exact Nat.lt_of_le_of_lt this (by decide)
theorem fxA_40 (k : Nat) : TA.fx 40 k = none := rfl
theorem fxA_41 (k : Nat) : TA.fx 41 k = none := rfl
theorem fxA_42 (k : Nat) : TA.fx 42 k = none := rfl
theorem fxA_43 (k : Nat) : TA.fx 43 k = none := rfl
theorem kA_1 : TA.kd 1 = 11 := by decide +kernel
theorem kA_2 : TA.kd 2 = 9 := by decide +kernel
theorem kA_3 : TA.kd 3 = 40 := by decide +kernel
theorem zA_3 : ((TA.ln 3 : Nat) : Int) = 10 := by decide +kernel
theorem kA_4 : TA.kd 4 = 40 := by decide +kernel
theorem zA_4 : ((TA.ln 4 : Nat) : Int) = 10 := by decide +kernel
theorem kA_5 : TA.kd 5 = 40 := by decide +kernel
theorem zA_5 : ((TA.ln 5 : Nat) : Int) = 10 := by decide +kernel
theorem kA_6 : TA.kd 6 = 40 := by decide +kernel
theorem zA_6 : ((TA.ln 6 : Nat) : Int) = 10 := by decide +kernel
theorem kA_7 : TA.kd 7 = 3 := by decide +kernel
theorem kA_8 : TA.kd 8 = 40 := by decide +kernel
theorem zA_8 : ((TA.ln 8 : Nat) : Int) = 24 := by decide +kernel
theorem kA_9 : TA.kd 9 = 40 := by decide +kernel
theorem zA_9 : ((TA.ln 9 : Nat) : Int) = 24 := by decide +kernel
theorem kA_10 : TA.kd 10 = 40 := by decide +kernel
theorem zA_10 : ((TA.ln 10 : Nat) : Int) = 24 := by decide +kernel
theorem kA_11 : TA.kd 11 = 40 := by decide +kernel
theorem zA_11 : ((TA.ln 11 : Nat) : Int) = 24 := by decide +kernel
theorem kA_12 : TA.kd 12 = 40 := by decide +kernel
theorem zA_12 : ((TA.ln 12 : Nat) : Int) = 24 := by decide +kernel
theorem kA_13 : TA.kd 13 = 41 := by decide +kernel
theorem zA_13 : ((TA.ln 13 : Nat) : Int) = 24 := by decide +kernel
theorem kA_14 : TA.kd 14 = 8 := by decide +kernel
theorem kA_15 : TA.kd 15 = 1 := by decide +kernel
theorem kA_16 : TA.kd 16 = 40 := by decide +kernel
theorem zA_16 : ((TA.ln 16 : Nat) : Int) = 5 := by decide +kernel
theorem kA_17 : TA.kd 17 = 40 := by decide +kernel
theorem zA_17 : ((TA.ln 17 : Nat) : Int) = 5 := by decide +kernel
theorem kA_18 : TA.kd 18 = 40 := by decide +kernel
theorem zA_18 : ((TA.ln 18 : Nat) : Int) = 18 := by decide +kernel
theorem kA_19 : TA.kd 19 = 42 := by decide +kernel
theorem zA_19 : ((TA.ln 19 : Nat) : Int) = 12 := by decide +kernel
theorem kA_20 : TA.kd 20 = 42 := by decide +kernel
theorem zA_20 : ((TA.ln 20 : Nat) : Int) = 6 := by decide +kernel
theorem kA_21 : TA.kd 21 = 40 := by decide +kernel
theorem zA_21 : ((TA.ln 21 : Nat) : Int) = 10 := by decide +kernel
theorem kA_22 : TA.kd 22 = 1 := by decide +kernel
theorem kA_23 : TA.kd 23 = 40 := by decide +kernel
theorem zA_23 : ((TA.ln 23 : Nat) : Int) = 5 := by decide +kernel
theorem kA_24 : TA.kd 24 = 40 := by decide +kernel
theorem zA_24 : ((TA.ln 24 : Nat) : Int) = 5 := by decide +kernel
theorem kA_25 : TA.kd 25 = 40 := by decide +kernel
theorem zA_25 : ((TA.ln 25 : Nat) : Int) = 18 := by decide +kernel
theorem kA_26 : TA.kd 26 = 1 := by decide +kernel
theorem kA_27 : TA.kd 27 = 40 := by decide +kernel
theorem zA_27 : ((TA.ln 27 : Nat) : Int) = 5 := by decide +kernel
theorem kA_28 : TA.kd 28 = 40 := by decide +kernel
theorem zA_28 : ((TA.ln 28 : Nat) : Int) = 5 := by decide +kernel
theorem kA_29 : TA.kd 29 = 40 := by decide +kernel
theorem zA_29 : ((TA.ln 29 : Nat) : Int) = 18 := by decide +kernel
theorem kA_30 : TA.kd 30 = 1 := by decide +kernel
theorem kA_31 : TA.kd 31 = 40 := by decide +kernel
theorem zA_31 : ((TA.ln 31 : Nat) : Int) = 5 := by decide +kernel
theorem kA_32 : TA.kd 32 = 40 := by decide +kernel
theorem zA_32 : ((TA.ln 32 : Nat) : Int) = 5 := by decide +kernel
theorem kA_33 : TA.kd 33 = 40 := by decide +kernel
theorem zA_33 : ((TA.ln 33 : Nat) : Int) = 18 := by decide +kernel
theorem kA_34 : TA.kd 34 = 1 := by decide +kernel
theorem kA_35 : TA.kd 35 = 40 := by decide +kernel
theorem zA_35 : ((TA.ln 35 : Nat) : Int) = 5 := by decide +kernel
theorem kA_36 : TA.kd 36 = 40 := by decide +kernel
theorem zA_36 : ((TA.ln 36 : Nat) : Int) = 5 := by decide +kernel
theorem kA_37 : TA.kd 37 = 40 := by decide +kernel
theorem zA_37 : ((TA.ln 37 : Nat) : Int) = 18 := by decide +kernel
theorem kA_38 : TA.kd 38 = 1 := by decide +kernel
theorem kA_39 : TA.kd 39 = 40 := by decide +kernel
theorem zA_39 : ((TA.ln 39 : Nat) : Int) = 5 := by decide +kernel
theorem kA_40 : TA.kd 40 = 40 := by decide +kernel
theorem zA_40 : ((TA.ln 40 : Nat) : Int) = 5 := by decide +kernel
theorem kA_41 : TA.kd 41 = 40 := by decide +kernel
theorem zA_41 : ((TA.ln 41 : Nat) : Int) = 18 := by decide +kernel
theorem kA_42 : TA.kd 42 = 1 := by decide +kernel
theorem kA_43 : TA.kd 43 = 40 := by decide +kernel
theorem zA_43 : ((TA.ln 43 : Nat) : Int) = 5 := by decide +kernel
theorem kA_44 : TA.kd 44 = 40 := by decide +kernel
theorem zA_44 : ((TA.ln 44 : Nat) : Int) = 5 := by decide +kernel
theorem kA_45 : TA.kd 45 = 40 := by decide +kernel
theorem zA_45 : ((TA.ln 45 : Nat) : Int) = 18 := by decide +kernel
theorem kA_46 : TA.kd 46 = 1 := by decide +kernel
theorem kA_47 : TA.kd 47 = 40 := by decide +kernel
theorem zA_47 : ((TA.ln 47 : Nat) : Int) = 5 := by decide +kernel
theorem kA_48 : TA.kd 48 = 40 := by decide +kernel
theorem zA_48 : ((TA.ln 48 : Nat) : Int) = 5 := by decide +kernel
theorem kA_49 : TA.kd 49 = 40 := by decide +kernel
theorem zA_49 : ((TA.ln 49 : Nat) : Int) = 18 := by decide +kernel
theorem kA_50 : TA.kd 50 = 1 := by decide +kernel
theorem kA_51 : TA.kd 51 = 40 := by decide +kernel
theorem zA_51 : ((TA.ln 51 : Nat) : Int) = 5 := by decide +kernel
theorem kA_52 : TA.kd 52 = 40 := by decide +kernel
theorem zA_52 : ((TA.ln 52 : Nat) : Int) = 5 := by decide +kernel
theorem kA_53 : TA.kd 53 = 40 := by decide +kernel
theorem zA_53 : ((TA.ln 53 : Nat) : Int) = 18 := by decide +kernel
theorem kA_54 : TA.kd 54 = 1 := by decide +kernel
theorem kA_55 : TA.kd 55 = 40 := by decide +kernel
theorem zA_55 : ((TA.ln 55 : Nat) : Int) = 5 := by decide +kernel
theorem kA_56 : TA.kd 56 = 40 := by decide +kernel
theorem zA_56 : ((TA.ln 56 : Nat) : Int) = 5 := by decide +kernel
theorem kA_57 : TA.kd 57 = 40 := by decide +kernel
theorem zA_57 : ((TA.ln 57 : Nat) : Int) = 18 := by decide +kernel
theorem kA_58 : TA.kd 58 = 1 := by decide +kernel
theorem kA_59 : TA.kd 59 = 40 := by decide +kernel
theorem zA_59 : ((TA.ln 59 : Nat) : Int) = 5 := by decide +kernel
theorem kA_60 : TA.kd 60 = 40 := by decide +kernel
theorem zA_60 : ((TA.ln 60 : Nat) : Int) = 5 := by decide +kernel
theorem kA_61 : TA.kd 61 = 40 := by decide +kernel
theorem zA_61 : ((TA.ln 61 : Nat) : Int) = 18 := by decide +kernel
theorem kA_62 : TA.kd 62 = 1 := by decide +kernel
theorem kA_63 : TA.kd 63 = 40 := by decide +kernel
theorem zA_63 : ((TA.ln 63 : Nat) : Int) = 5 := by decide +kernel
theorem kA_64 : TA.kd 64 = 40 := by decide +kernel
theorem zA_64 : ((TA.ln 64 : Nat) : Int) = 5 := by decide +kernel
theorem kA_65 : TA.kd 65 = 40 := by decide +kernel
theorem zA_65 : ((TA.ln 65 : Nat) : Int) = 18 := by decide +kernel
theorem kA_66 : TA.kd 66 = 1 := by decide +kernel
theorem kA_67 : TA.kd 67 = 40 := by decide +kernel
theorem zA_67 : ((TA.ln 67 : Nat) : Int) = 5 := by decide +kernel
theorem kA_68 : TA.kd 68 = 40 := by decide +kernel
theorem zA_68 : ((TA.ln 68 : Nat) : Int) = 5 := by decide +kernel
theorem kA_69 : TA.kd 69 = 40 := by decide +kernel
theorem zA_69 : ((TA.ln 69 : Nat) : Int) = 18 := by decide +kernel
theorem kA_70 : TA.kd 70 = 1 := by decide +kernel
theorem kA_71 : TA.kd 71 = 40 := by decide +kernel
theorem zA_71 : ((TA.ln 71 : Nat) : Int) = 5 := by decide +kernel
theorem kA_72 : TA.kd 72 = 40 := by decide +kernel
theorem zA_72 : ((TA.ln 72 : Nat) : Int) = 5 := by decide +kernel
theorem kA_73 : TA.kd 73 = 40 := by decide +kernel
theorem zA_73 : ((TA.ln 73 : Nat) : Int) = 18 := by decide +kernel
theorem kA_74 : TA.kd 74 = 1 := by decide +kernel
theorem kA_75 : TA.kd 75 = 40 := by decide +kernel
theorem zA_75 : ((TA.ln 75 : Nat) : Int) = 5 := by decide +kernel
theorem kA_76 : TA.kd 76 = 40 := by decide +kernel
theorem zA_76 : ((TA.ln 76 : Nat) : Int) = 5 := by decide +kernel
theorem kA_77 : TA.kd 77 = 40 := by decide +kernel
theorem zA_77 : ((TA.ln 77 : Nat) : Int) = 18 := by decide +kernel
theorem kA_78 : TA.kd 78 = 1 := by decide +kernel
theorem kA_79 : TA.kd 79 = 40 := by decide +kernel
theorem zA_79 : ((TA.ln 79 : Nat) : Int) = 5 := by decide +kernel
theorem kA_80 : TA.kd 80 = 40 := by decide +kernel
theorem zA_80 : ((TA.ln 80 : Nat) : Int) = 5 := by decide +kernel
theorem kA_81 : TA.kd 81 = 40 := by decide +kernel
theorem zA_81 : ((TA.ln 81 : Nat) : Int) = 18 := by decide +kernel
theorem kA_82 : TA.kd 82 = 1 := by decide +kernel
theorem kA_83 : TA.kd 83 = 40 := by decide +kernel
theorem zA_83 : ((TA.ln 83 : Nat) : Int) = 5 := by decide +kernel
theorem kA_84 : TA.kd 84 = 40 := by decide +kernel
theorem zA_84 : ((TA.ln 84 : Nat) : Int) = 5 := by decide +kernel
theorem kA_85 : TA.kd 85 = 40 := by decide +kernel
theorem zA_85 : ((TA.ln 85 : Nat) : Int) = 18 := by decide +kernel
theorem kA_86 : TA.kd 86 = 1 := by decide +kernel
theorem kA_87 : TA.kd 87 = 40 := by decide +kernel
theorem zA_87 : ((TA.ln 87 : Nat) : Int) = 5 := by decide +kernel
theorem kA_88 : TA.kd 88 = 40 := by decide +kernel
theorem zA_88 : ((TA.ln 88 : Nat) : Int) = 5 := by decide +kernel
theorem kA_89 : TA.kd 89 = 40 := by decide +kernel
theorem zA_89 : ((TA.ln 89 : Nat) : Int) = 18 := by decide +kernel
theorem kA_90 : TA.kd 90 = 1 := by decide +kernel
theorem kA_91 : TA.kd 91 = 40 := by decide +kernel
theorem zA_91 : ((TA.ln 91 : Nat) : Int) = 5 := by decide +kernel
theorem kA_92 : TA.kd 92 = 40 := by decide +kernel
theorem zA_92 : ((TA.ln 92 : Nat) : Int) = 5 := by decide +kernel
theorem kA_93 : TA.kd 93 = 40 := by decide +kernel
theorem zA_93 : ((TA.ln 93 : Nat) : Int) = 18 := by decide +kernel
theorem kA_94 : TA.kd 94 = 1 := by decide +kernel
theorem kA_95 : TA.kd 95 = 40 := by decide +kernel
theorem zA_95 : ((TA.ln 95 : Nat) : Int) = 5 := by decide +kernel
theorem kA_96 : TA.kd 96 = 40 := by decide +kernel
theorem zA_96 : ((TA.ln 96 : Nat) : Int) = 5 := by decide +kernel
theorem kA_97 : TA.kd 97 = 40 := by decide +kernel
theorem zA_97 : ((TA.ln 97 : Nat) : Int) = 18 := by decide +kernel
theorem kA_98 : TA.kd 98 = 6 := by decide +kernel
theorem kA_99 : TA.kd 99 = 40 := by decide +kernel
theorem zA_99 : ((TA.ln 99 : Nat) : Int) = 10 := by decide +kernel
theorem kA_100 : TA.kd 100 = 40 := by decide +kernel
theorem zA_100 : ((TA.ln 100 : Nat) : Int) = 48 := by decide +kernel
theorem kA_101 : TA.kd 101 = 40 := by decide +kernel
theorem zA_101 : ((TA.ln 101 : Nat) : Int) = 48 := by decide +kernel
theorem kA_102 : TA.kd 102 = 40 := by decide +kernel
theorem zA_102 : ((TA.ln 102 : Nat) : Int) = 48 := by decide +kernel
theorem kA_103 : TA.kd 103 = 10 := by decide +kernel
theorem kA_104 : TA.kd 104 = 40 := by decide +kernel
theorem zA_104 : ((TA.ln 104 : Nat) : Int) = 8 := by decide +kernel
theorem kA_105 : TA.kd 105 = 40 := by decide +kernel
theorem zA_105 : ((TA.ln 105 : Nat) : Int) = 5 := by decide +kernel
theorem kA_106 : TA.kd 106 = 40 := by decide +kernel
theorem zA_106 : ((TA.ln 106 : Nat) : Int) = 5 := by decide +kernel
theorem kA_107 : TA.kd 107 = 5 := by decide +kernel
theorem kA_108 : TA.kd 108 = 43 := by decide +kernel
theorem zA_108 : ((TA.ln 108 : Nat) : Int) = 4 := by decide +kernel
theorem kA_109 : TA.kd 109 = 43 := by decide +kernel
theorem zA_109 : ((TA.ln 109 : Nat) : Int) = 4 := by decide +kernel
theorem kA_110 : TA.kd 110 = 6 := by decide +kernel
theorem kA_111 : TA.kd 111 = 40 := by decide +kernel
theorem zA_111 : ((TA.ln 111 : Nat) : Int) = 10 := by decide +kernel
theorem kA_112 : TA.kd 112 = 40 := by decide +kernel
theorem zA_112 : ((TA.ln 112 : Nat) : Int) = 48 := by decide +kernel
theorem kA_113 : TA.kd 113 = 40 := by decide +kernel
theorem zA_113 : ((TA.ln 113 : Nat) : Int) = 48 := by decide +kernel
theorem kA_114 : TA.kd 114 = 40 := by decide +kernel
theorem zA_114 : ((TA.ln 114 : Nat) : Int) = 48 := by decide +kernel
theorem kA_115 : TA.kd 115 = 6 := by decide +kernel
theorem kA_116 : TA.kd 116 = 40 := by decide +kernel
theorem zA_116 : ((TA.ln 116 : Nat) : Int) = 10 := by decide +kernel
theorem kA_117 : TA.kd 117 = 40 := by decide +kernel
theorem zA_117 : ((TA.ln 117 : Nat) : Int) = 48 := by decide +kernel
theorem kA_118 : TA.kd 118 = 40 := by decide +kernel
theorem zA_118 : ((TA.ln 118 : Nat) : Int) = 48 := by decide +kernel
theorem kA_119 : TA.kd 119 = 40 := by decide +kernel
theorem zA_119 : ((TA.ln 119 : Nat) : Int) = 48 := by decide +kernel
theorem kA_120 : TA.kd 120 = 6 := by decide +kernel
theorem kA_121 : TA.kd 121 = 40 := by decide +kernel
theorem zA_121 : ((TA.ln 121 : Nat) : Int) = 10 := by decide +kernel
theorem kA_122 : TA.kd 122 = 40 := by decide +kernel
theorem zA_122 : ((TA.ln 122 : Nat) : Int) = 48 := by decide +kernel
theorem kA_123 : TA.kd 123 = 40 := by decide +kernel
theorem zA_123 : ((TA.ln 123 : Nat) : Int) = 48 := by decide +kernel
theorem kA_124 : TA.kd 124 = 40 := by decide +kernel
theorem zA_124 : ((TA.ln 124 : Nat) : Int) = 48 := by decide +kernel
theorem kA_125 : TA.kd 125 = 6 := by decide +kernel
theorem kA_126 : TA.kd 126 = 40 := by decide +kernel
theorem zA_126 : ((TA.ln 126 : Nat) : Int) = 10 := by decide +kernel
theorem kA_127 : TA.kd 127 = 40 := by decide +kernel
theorem zA_127 : ((TA.ln 127 : Nat) : Int) = 48 := by decide +kernel
theorem kA_128 : TA.kd 128 = 40 := by decide +kernel
theorem zA_128 : ((TA.ln 128 : Nat) : Int) = 48 := by decide +kernel
theorem kA_129 : TA.kd 129 = 40 := by decide +kernel
theorem zA_129 : ((TA.ln 129 : Nat) : Int) = 48 := by decide +kernel
theorem kA_130 : TA.kd 130 = 6 := by decide +kernel
theorem kA_131 : TA.kd 131 = 40 := by decide +kernel
theorem zA_131 : ((TA.ln 131 : Nat) : Int) = 10 := by decide +kernel
theorem kA_132 : TA.kd 132 = 40 := by decide +kernel
theorem zA_132 : ((TA.ln 132 : Nat) : Int) = 48 := by decide +kernel
theorem kA_133 : TA.kd 133 = 40 := by decide +kernel
theorem zA_133 : ((TA.ln 133 : Nat) : Int) = 48 := by decide +kernel
theorem kA_134 : TA.kd 134 = 40 := by decide +kernel
theorem zA_134 : ((TA.ln 134 : Nat) : Int) = 48 := by decide +kernel
theorem kA_135 : TA.kd 135 = 6 := by decide +kernel
theorem kA_136 : TA.kd 136 = 40 := by decide +kernel
theorem zA_136 : ((TA.ln 136 : Nat) : Int) = 10 := by decide +kernel
theorem kA_137 : TA.kd 137 = 40 := by decide +kernel
theorem zA_137 : ((TA.ln 137 : Nat) : Int) = 48 := by decide +kernel
theorem kA_138 : TA.kd 138 = 40 := by decide +kernel
theorem zA_138 : ((TA.ln 138 : Nat) : Int) = 48 := by decide +kernel
theorem kA_139 : TA.kd 139 = 40 := by decide +kernel
theorem zA_139 : ((TA.ln 139 : Nat) : Int) = 48 := by decide +kernel
theorem kA_140 : TA.kd 140 = 6 := by decide +kernel
theorem kA_141 : TA.kd 141 = 40 := by decide +kernel
theorem zA_141 : ((TA.ln 141 : Nat) : Int) = 10 := by decide +kernel
theorem kA_142 : TA.kd 142 = 40 := by decide +kernel
theorem zA_142 : ((TA.ln 142 : Nat) : Int) = 48 := by decide +kernel
theorem kA_143 : TA.kd 143 = 40 := by decide +kernel
theorem zA_143 : ((TA.ln 143 : Nat) : Int) = 48 := by decide +kernel
theorem kA_144 : TA.kd 144 = 40 := by decide +kernel
theorem zA_144 : ((TA.ln 144 : Nat) : Int) = 48 := by decide +kernel
theorem kA_145 : TA.kd 145 = 6 := by decide +kernel
theorem kA_146 : TA.kd 146 = 40 := by decide +kernel
theorem zA_146 : ((TA.ln 146 : Nat) : Int) = 10 := by decide +kernel
theorem kA_147 : TA.kd 147 = 40 := by decide +kernel
theorem zA_147 : ((TA.ln 147 : Nat) : Int) = 48 := by decide +kernel
theorem kA_148 : TA.kd 148 = 40 := by decide +kernel
theorem zA_148 : ((TA.ln 148 : Nat) : Int) = 48 := by decide +kernel
theorem kA_149 : TA.kd 149 = 40 := by decide +kernel
theorem zA_149 : ((TA.ln 149 : Nat) : Int) = 48 := by decide +kernel
theorem kA_150 : TA.kd 150 = 2 := by decide +kernel
theorem kA_151 : TA.kd 151 = 40 := by decide +kernel
theorem zA_151 : ((TA.ln 151 : Nat) : Int) = 48 := by decide +kernel
theorem kA_152 : TA.kd 152 = 4 := by decide +kernel
theorem kA_153 : TA.kd 153 = 40 := by decide +kernel
theorem zA_153 : ((TA.ln 153 : Nat) : Int) = 400 := by decide +kernel
theorem kA_154 : TA.kd 154 = 40 := by decide +kernel
theorem zA_154 : ((TA.ln 154 : Nat) : Int) = 1024 := by decide +kernel
theorem kA_155 : TA.kd 155 = 7 := by decide +kernel
theorem kA_156 : TA.kd 156 = 40 := by decide +kernel
theorem zA_156 : ((TA.ln 156 : Nat) : Int) = 3 := by decide +kernel
theorem kA_157 : TA.kd 157 = 40 := by decide +kernel
theorem zA_157 : ((TA.ln 157 : Nat) : Int) = 3 := by decide +kernel
theorem krA_1_1 {c : Nat} (h : TA.kd c = 1) : TA.kd (c + 1) = 40 := by
  have hc : c < 158 := Nat.lt_succ_of_le (TnA c (by omega)).2
  exact (by decide +kernel : ∀ c, c < 158 → kdA c = 1 → kdA (c + 1) = 40) c hc h
theorem zrA_1_1 {c : Nat} (h : TA.kd c = 1) : ((TA.ln (c + 1) : Nat) : Int) = 5 := by
  have hc : c < 158 := Nat.lt_succ_of_le (TnA c (by omega)).2
  exact (by decide +kernel : ∀ c, c < 158 → kdA c = 1 → ((lnA (c + 1) : Nat) : Int) = 5) c hc h
theorem krA_1_2 {c : Nat} (h : TA.kd c = 1) : TA.kd (c + 2) = 40 := by
  have hc : c < 158 := Nat.lt_succ_of_le (TnA c (by omega)).2
  exact (by decide +kernel : ∀ c, c < 158 → kdA c = 1 → kdA (c + 2) = 40) c hc h
theorem zrA_1_2 {c : Nat} (h : TA.kd c = 1) : ((TA.ln (c + 2) : Nat) : Int) = 5 := by
  have hc : c < 158 := Nat.lt_succ_of_le (TnA c (by omega)).2
  exact (by decide +kernel : ∀ c, c < 158 → kdA c = 1 → ((lnA (c + 2) : Nat) : Int) = 5) c hc h
theorem krA_1_3 {c : Nat} (h : TA.kd c = 1) : TA.kd (c + 3) = 40 := by
  have hc : c < 158 := Nat.lt_succ_of_le (TnA c (by omega)).2
  exact (by decide +kernel : ∀ c, c < 158 → kdA c = 1 → kdA (c + 3) = 40) c hc h
theorem zrA_1_3 {c : Nat} (h : TA.kd c = 1) : ((TA.ln (c + 3) : Nat) : Int) = 18 := by
  have hc : c < 158 := Nat.lt_succ_of_le (TnA c (by omega)).2
  exact (by decide +kernel : ∀ c, c < 158 → kdA c = 1 → ((lnA (c + 3) : Nat) : Int) = 18) c hc h
theorem krA_6_1 {c : Nat} (h : TA.kd c = 6) : TA.kd (c + 1) = 40 := by
  have hc : c < 158 := Nat.lt_succ_of_le (TnA c (by omega)).2
  exact (by decide +kernel : ∀ c, c < 158 → kdA c = 6 → kdA (c + 1) = 40) c hc h
theorem zrA_6_1 {c : Nat} (h : TA.kd c = 6) : ((TA.ln (c + 1) : Nat) : Int) = 10 := by
  have hc : c < 158 := Nat.lt_succ_of_le (TnA c (by omega)).2
  exact (by decide +kernel : ∀ c, c < 158 → kdA c = 6 → ((lnA (c + 1) : Nat) : Int) = 10) c hc h
theorem krA_6_2 {c : Nat} (h : TA.kd c = 6) : TA.kd (c + 2) = 40 := by
  have hc : c < 158 := Nat.lt_succ_of_le (TnA c (by omega)).2
  exact (by decide +kernel : ∀ c, c < 158 → kdA c = 6 → kdA (c + 2) = 40) c hc h
theorem zrA_6_2 {c : Nat} (h : TA.kd c = 6) : ((TA.ln (c + 2) : Nat) : Int) = 48 := by
  have hc : c < 158 := Nat.lt_succ_of_le (TnA c (by omega)).2
  exact (by decide +kernel : ∀ c, c < 158 → kdA c = 6 → ((lnA (c + 2) : Nat) : Int) = 48) c hc h
theorem krA_6_3 {c : Nat} (h : TA.kd c = 6) : TA.kd (c + 3) = 40 := by
  have hc : c < 158 := Nat.lt_succ_of_le (TnA c (by omega)).2
  exact (by decide +kernel : ∀ c, c < 158 → kdA c = 6 → kdA (c + 3) = 40) c hc h
theorem zrA_6_3 {c : Nat} (h : TA.kd c = 6) : ((TA.ln (c + 3) : Nat) : Int) = 48 := by
  have hc : c < 158 := Nat.lt_succ_of_le (TnA c (by omega)).2
  exact (by decide +kernel : ∀ c, c < 158 → kdA c = 6 → ((lnA (c + 3) : Nat) : Int) = 48) c hc h
theorem krA_6_4 {c : Nat} (h : TA.kd c = 6) : TA.kd (c + 4) = 40 := by
  have hc : c < 158 := Nat.lt_succ_of_le (TnA c (by omega)).2
  exact (by decide +kernel : ∀ c, c < 158 → kdA c = 6 → kdA (c + 4) = 40) c hc h
theorem zrA_6_4 {c : Nat} (h : TA.kd c = 6) : ((TA.ln (c + 4) : Nat) : Int) = 48 := by
  have hc : c < 158 := Nat.lt_succ_of_le (TnA c (by omega)).2
  exact (by decide +kernel : ∀ c, c < 158 → kdA c = 6 → ((lnA (c + 4) : Nat) : Int) = 48) c hc h
theorem in_places {ws : List Cond} (ps : List Nat) (hp : ws = ps.filterMap (fun i => lw_tbl[i]?)) (h : ws.all goodWord = true) : ∀ w ∈ ws, w ∈ GW := by
  intro w hw
  have h1 := List.all_eq_true.mp h w hw
  rw [hp] at hw
  obtain ⟨i, -, hi⟩ := List.mem_filterMap.mp hw
  exact inGW (List.mem_of_getElem? hi) h1
set_option maxRecDepth 20000 in
theorem inWX0 : ∀ w ∈ u_ws RX0 TX0 6, w ∈ GW := in_places [223, 225, 227, 229, 231, 233] rfl (by decide +kernel)
set_option maxRecDepth 20000 in
theorem inWX1 : ∀ w ∈ u_ws RX1 TX1 2, w ∈ GW := in_places [363, 365] rfl (by decide +kernel)
set_option maxRecDepth 20000 in
theorem inWX2 : ∀ w ∈ u_ws RX2 TX2 8, w ∈ GW := in_places [176, 178, 180, 182, 184, 186, 188, 190] rfl (by decide +kernel)
set_option maxRecDepth 20000 in
theorem inWX3 : ∀ w ∈ u_ws RX3 TX3 3, w ∈ GW := in_places [378, 380, 382] rfl (by decide +kernel)
set_option maxRecDepth 20000 in
theorem inWX4 : ∀ w ∈ u_ws RX4 TX4 3, w ∈ GW := in_places [347, 349, 351] rfl (by decide +kernel)
set_option maxRecDepth 20000 in
theorem inWX5 : ∀ w ∈ u_ws RX5 TX5 7, w ∈ GW := in_places [283, 285, 287, 289, 291, 293, 295] rfl (by decide +kernel)
set_option maxRecDepth 20000 in
theorem inWX6 : ∀ w ∈ u_ws RX6 TX6 3, w ∈ GW := in_places [394, 396, 398] rfl (by decide +kernel)
set_option maxRecDepth 20000 in
theorem inWX7 : ∀ w ∈ u_ws RX7 TX7 8, w ∈ GW := in_places [249, 251, 253, 255, 257, 259, 261, 263] rfl (by decide +kernel)
set_option maxRecDepth 20000 in
theorem inWX8 : ∀ w ∈ u_ws RX8 TX8 4, w ∈ GW := in_places [149, 151, 153, 155] rfl (by decide +kernel)
set_option maxRecDepth 20000 in
theorem inWX9 : ∀ w ∈ u_ws RX9 TX9 11, w ∈ GW := in_places [315, 317, 319, 321, 323, 325, 327, 329, 331, 333, 335] rfl (by decide +kernel)
set_option maxRecDepth 20000 in
theorem inWX10 : ∀ w ∈ u_ws RX10 TX10 13, w ∈ GW := in_places [414, 416, 418, 420, 422, 424, 426, 428, 430, 432, 434, 436, 438] rfl (by decide +kernel)
