/-! THE REFERENCE'S FUNCTIONS, as numbers alone (no claim of the reference's bytecode): a picture of what a mill holds -/
noncomputable def f_Re_thrown (w : World) : Option Int :=
  some (w 1 0)
noncomputable def f_Re_refused (w : World) (x1 : Int) : Option (World × Int) :=
  bl (up w 1 0 x1) fun w1 => if x1 = 0 then (some (w1, 0)) else (some (w1, 1))
noncomputable def f_Re_fine (w : World) (x1 : Int) : Option (World × Int) :=
  bl (up w 1 0 0) fun w1 => some (w1, x1)
noncomputable def f_Re_in (x0 : Int) (x1 : Int) (x2 : Int) : Option Int :=
  if x0 < x1 then (some 0) else (if x2 < x0 then (some 0) else (some 1))
noncomputable def f_Re_isRelation (w : World) (x1 : Int) : Option Int :=
  bnd (f_Re_in x1 0 9) fun v2 => if v2 = 0 then (some 0) else (gd (0 ≤ x1 ∧ x1 < 10) (if (w 2 x1.toNat) = 0 then (some 0) else (some 1)))
noncomputable def f_Re_isTerm (w : World) (x1 : Int) (x2 : Int) (x3 : Int) : Option Int :=
  gd (0 ≤ x1 ∧ x1 < 10) (if (w 3 x1.toNat) ≤ x3 then (if x2 = 0 then (some 1) else (some 0)) else (bnd (f_Re_in x2 (-8) 127) fun v8 => gd (v8 = 0 ∨ v8 = 1) (some v8)))
noncomputable def f_Re_areTerms (w : World) (x1 : Int) (x2 : Int) (x3 : Int) (x4 : Int) : Option Int :=
  bnd (f_Re_isTerm w x1 x2 0) fun v2 => if v2 = 0 then (some 0) else (bnd (f_Re_isTerm w x1 x3 1) fun v7 => if v7 = 0 then (some 0) else (bnd (f_Re_isTerm w x1 x4 2) fun v12 => if v12 = 0 then (some 0) else (some 1)))
noncomputable def f_Re_isValue_31 (w : World) : Option Int :=
  some 1
noncomputable def f_Re_isValue_35 (w : World) : Option Int :=
  some 0
noncomputable def f_Re_isValue (w : World) (x1 : Int) (x2 : Int) (x3 : Int) (x4 : Int) : Option Int :=
  gd (0 ≤ x1 ∧ x1 < 10) (if (w 3 x1.toNat) ≤ x3 then (if x2 = 0 then (some 1) else (some 0)) else (bnd (f_Re_in x2 0 127) fun v8 => if v8 = 0 then (if x4 = 0 then (f_Re_isValue_35 w) else (if x2 = (-9) then (f_Re_isValue_31 w) else (f_Re_isValue_35 w))) else (f_Re_isValue_31 w)))
noncomputable def f_Re_areValues (w : World) (x1 : Int) (x2 : Int) (x3 : Int) (x4 : Int) (x5 : Int) : Option Int :=
  bnd (f_Re_isValue w x1 x2 0 x5) fun v2 => if v2 = 0 then (some 0) else (bnd (f_Re_isValue w x1 x3 1 x5) fun v7 => if v7 = 0 then (some 0) else (bnd (f_Re_isValue w x1 x4 2 x5) fun v12 => if v12 = 0 then (some 0) else (some 1)))
noncomputable def f_Re_declare_100 (w : World) (x1 : Int) (x2 : Int) (x3 : Int) (x4 : Int) (s1 : Int) : Option World :=
  bnd (f_Re_refused w s1) fun v2 => if v2.2 = 0 then (gd (0 ≤ x1 ∧ x1 < 10) (bl (up v2.1 2 x1.toNat 1) fun w7 => gd (0 ≤ x1 ∧ x1 < 10) (bl (up w7 3 x1.toNat x2) fun w9 => gd (0 ≤ x1 ∧ x1 < 10) (bl (up w9 4 x1.toNat x3) fun w11 => gd (0 ≤ x1 ∧ x1 < 10) (bl (up w11 5 x1.toNat x4) fun w13 => some w13))))) else (some v2.1)
noncomputable def f_Re_declare_65 (w : World) (x1 : Int) (x2 : Int) (x3 : Int) (x4 : Int) (x5 : Int) (s0 : Int) : Option World :=
  if x5 = 0 then (f_Re_declare_100 w x1 x2 x3 x4 1) else (if s0 = 0 then (f_Re_declare_100 w x1 x2 x3 x4 2) else (gd (0 ≤ x1 ∧ x1 < 10) (if (w 2 x1.toNat) = 0 then (f_Re_declare_100 w x1 x2 x3 x4 0) else (f_Re_declare_100 w x1 x2 x3 x4 3))))
noncomputable def f_Re_declare_64 (w : World) (x1 : Int) (x2 : Int) (x3 : Int) (x4 : Int) (x5 : Int) : Option World :=
  f_Re_declare_65 w x1 x2 x3 x4 x5 0
noncomputable def f_Re_declare_60 (w : World) (x1 : Int) (x2 : Int) (x3 : Int) (x4 : Int) (x5 : Int) : Option World :=
  f_Re_declare_65 w x1 x2 x3 x4 x5 1
noncomputable def f_Re_declare_24 (w : World) (x1 : Int) (x2 : Int) (x3 : Int) (x4 : Int) (s0 : Int) : Option World :=
  bnd (f_Re_in x2 1 3) fun v2 => if v2 = 0 then (f_Re_declare_64 w x1 x2 x3 x4 s0) else (if x3 = 0 then (bnd (f_Re_in x4 1 x2) fun v11 => if v11 = 0 then (f_Re_declare_64 w x1 x2 x3 x4 s0) else (f_Re_declare_60 w x1 x2 x3 x4 s0)) else (if x4 = (wr (x2 - 1)) then (f_Re_declare_60 w x1 x2 x3 x4 s0) else (f_Re_declare_64 w x1 x2 x3 x4 s0)))
noncomputable def f_Re_declare_23 (w : World) (x1 : Int) (x2 : Int) (x3 : Int) (x4 : Int) : Option World :=
  f_Re_declare_24 w x1 x2 x3 x4 0
noncomputable def f_Re_declare (w : World) (x1 : Int) (x2 : Int) (x3 : Int) (x4 : Int) : Option World :=
  bnd (f_Re_in x1 0 9) fun v2 => if v2 = 0 then (f_Re_declare_23 w x1 x2 x3 x4) else (bnd (f_Re_in x3 0 3) fun v7 => if v7 = 0 then (f_Re_declare_23 w x1 x2 x3 x4) else (f_Re_declare_24 w x1 x2 x3 x4 1))
noncomputable def f_Re_holdsIn (w : World) (x1 : Int) (x2 : Int) (x3 : Int) : Option Int :=
  gd (0 ≤ x1 ∧ x1 < 24) (if (w 12 x1.toNat) = 0 then (gd (0 ≤ x1 ∧ x1 < 24) (gd (0 ≤ x1 ∧ x1 < 24) (bnd (f_Re_in x2 (w 10 x1.toNat) (w 11 x1.toNat)) fun v10 => if v10 = 0 then (some 0) else (if (iand (ishr x3 x1) 1) = 0 then (some 1) else (some 0))))) else (some 0))
noncomputable def f_Re_place_147 (w : World) (x1 : Int) (x2 : Int) (x3 : Int) (x4 : Int) (x5 : Int) (x6 : Int) (x8 : Int) (s0 : Int) : Option ((Int × Int) ⊕ Int) :=
  bl (wr (x8 + 1)) fun n1 => some (Sum.inl (s0, n1))
noncomputable def f_Re_place_133 (w : World) (x1 : Int) (x2 : Int) (x3 : Int) (x4 : Int) (x5 : Int) (x6 : Int) (x7 : Int) (x8 : Int) (s0 : Int) : Option ((Int × Int) ⊕ Int) :=
  if s0 = 0 then (f_Re_place_147 w x1 x2 x3 x4 x5 x6 x8 x7) else (f_Re_place_147 w x1 x2 x3 x4 x5 x6 x8 x8)
noncomputable def f_Re_place_132 (w : World) (x1 : Int) (x2 : Int) (x3 : Int) (x4 : Int) (x5 : Int) (x6 : Int) (x7 : Int) (x8 : Int) : Option ((Int × Int) ⊕ Int) :=
  f_Re_place_133 w x1 x2 x3 x4 x5 x6 x7 x8 0
noncomputable def f_Re_place_128 (w : World) (x1 : Int) (x2 : Int) (x3 : Int) (x4 : Int) (x5 : Int) (x6 : Int) (x7 : Int) (x8 : Int) : Option ((Int × Int) ⊕ Int) :=
  f_Re_place_133 w x1 x2 x3 x4 x5 x6 x7 x8 1
noncomputable def f_Re_place_106 (w : World) (x1 : Int) (x2 : Int) (x3 : Int) (x4 : Int) (x5 : Int) (x6 : Int) (x7 : Int) (x8 : Int) (x9 : Int) : Option ((Int × Int) ⊕ Int) :=
  if x6 < 3 then (f_Re_place_128 w x1 x2 x3 x4 x5 x6 x7 x8) else (gd (0 ≤ wr ((wr (3 * x9)) + 2) ∧ wr ((wr (3 * x9)) + 2) < 750) (if (w 22 (wr ((wr (3 * x9)) + 2)).toNat) = x5 then (f_Re_place_128 w x1 x2 x3 x4 x5 x6 x7 x8) else (f_Re_place_132 w x1 x2 x3 x4 x5 x6 x7 x8)))
noncomputable def f_Re_place_84 (w : World) (x1 : Int) (x2 : Int) (x3 : Int) (x4 : Int) (x5 : Int) (x6 : Int) (x7 : Int) (x8 : Int) (x9 : Int) : Option ((Int × Int) ⊕ Int) :=
  if x6 < 2 then (f_Re_place_106 w x1 x2 x3 x4 x5 x6 x7 x8 x9) else (gd (0 ≤ wr ((wr (3 * x9)) + 1) ∧ wr ((wr (3 * x9)) + 1) < 750) (if (w 22 (wr ((wr (3 * x9)) + 1)).toNat) = x4 then (f_Re_place_106 w x1 x2 x3 x4 x5 x6 x7 x8 x9) else (f_Re_place_132 w x1 x2 x3 x4 x5 x6 x7 x8)))
noncomputable def f_Re_place_34B (w : World) (x1 : Int) (x2 : Int) (x3 : Int) (x4 : Int) (x5 : Int) (x6 : Int) (x7 : Int) (x8 : Int) : Option ((Int × Int) ⊕ Int) :=
  gd (0 ≤ x1 ∧ x1 < 5) (if (w 20 x1.toNat) ≤ x8 then (some (Sum.inr x7)) else (bl (wr ((wr (50 * x1)) + x8)) fun n5 => gd (0 ≤ n5 ∧ n5 < 250) (if (w 21 n5.toNat) = x2 then (if x6 < 1 then (f_Re_place_84 w x1 x2 x3 x4 x5 x6 x7 x8 n5) else (gd (0 ≤ wr (3 * n5) ∧ wr (3 * n5) < 750) (if (w 22 (wr (3 * n5)).toNat) = x3 then (f_Re_place_84 w x1 x2 x3 x4 x5 x6 x7 x8 n5) else (f_Re_place_132 w x1 x2 x3 x4 x5 x6 x7 x8)))) else (f_Re_place_132 w x1 x2 x3 x4 x5 x6 x7 x8))))
noncomputable def f_Re_place_34 (w : World) (x1 : Int) (x2 : Int) (x3 : Int) (x4 : Int) (x5 : Int) (x6 : Int) (x7 : Int) (x8 : Int) : Option Int :=
  lp (fun z : (Int × Int) => f_Re_place_34B w x1 x2 x3 x4 x5 x6 z.1 z.2) (x7, x8)
noncomputable def f_Re_place_26 (w : World) (x1 : Int) (x2 : Int) (x3 : Int) (x4 : Int) (x5 : Int) (s0 : Int) : Option Int :=
  f_Re_place_34 w x1 x2 x3 x4 x5 s0 (-1) 0
noncomputable def f_Re_place (w : World) (x1 : Int) (x2 : Int) (x3 : Int) (x4 : Int) (x5 : Int) : Option Int :=
  gd (0 ≤ x2 ∧ x2 < 10) (if (w 4 x2.toNat) = 0 then (gd (0 ≤ x2 ∧ x2 < 10) (f_Re_place_26 w x1 x2 x3 x4 x5 (w 3 x2.toNat))) else (gd (0 ≤ x2 ∧ x2 < 10) (f_Re_place_26 w x1 x2 x3 x4 x5 (wr ((w 3 x2.toNat) - 1)))))
noncomputable def f_Re_merged (x0 : Int) (x1 : Int) (x2 : Int) : Option Int :=
  if x0 = 1 then (if x1 ≤ x2 then (some x1) else (some x2)) else (if x0 = 2 then (if x2 ≤ x1 then (some x1) else (some x2)) else (some (ior x1 x2)))
noncomputable def f_Re_take_123 (w : World) (x7 : Int) (x9 : Int) (s0 : Int) : Option (World × Int) :=
  gd (0 ≤ x7 ∧ x7 < 750) (bl (up w 22 x7.toNat x9) fun w2 => gd (s0 = 0 ∨ s0 = 1) (some (w2, s0)))
noncomputable def f_Re_take_104 (w : World) (x7 : Int) (s0 : Int) : Option (World × Int) :=
  gd (0 ≤ x7 ∧ x7 < 750) (if s0 = (w 22 x7.toNat) then (f_Re_take_123 w x7 s0 0) else (f_Re_take_123 w x7 s0 1))
noncomputable def f_Re_take_70 (w : World) (x2 : Int) (x7 : Int) (s0 : Int) : Option (World × Int) :=
  gd (0 ≤ x2 ∧ x2 < 10) (if (w 4 x2.toNat) = 0 then (f_Re_take_104 w x7 s0) else (gd (0 ≤ x2 ∧ x2 < 10) (gd (0 ≤ x7 ∧ x7 < 750) (bnd (f_Re_merged (w 4 x2.toNat) (w 22 x7.toNat) s0) fun v10 => f_Re_take_104 w x7 v10))))
noncomputable def f_Re_take (w : World) (x1 : Int) (x2 : Int) (x3 : Int) (x4 : Int) (x5 : Int) : Option (World × Int) :=
  bnd (f_Re_place w x1 x2 x3 x4 x5) fun v2 => if v2 = (-1) then (gd (0 ≤ x1 ∧ x1 < 5) (bl (wr ((wr (50 * x1)) + (w 20 x1.toNat))) fun n8 => gd (0 ≤ n8 ∧ n8 < 250) (bl (up w 21 n8.toNat x2) fun w10 => gd (0 ≤ wr (3 * n8) ∧ wr (3 * n8) < 750) (bl (up w10 22 (wr (3 * n8)).toNat x3) fun w12 => gd (0 ≤ wr ((wr (3 * n8)) + 1) ∧ wr ((wr (3 * n8)) + 1) < 750) (bl (up w12 22 (wr ((wr (3 * n8)) + 1)).toNat x4) fun w14 => gd (0 ≤ wr ((wr (3 * n8)) + 2) ∧ wr ((wr (3 * n8)) + 2) < 750) (bl (up w14 22 (wr ((wr (3 * n8)) + 2)).toNat x5) fun w16 => gd (0 ≤ x1 ∧ x1 < 5) (gd (0 ≤ x1 ∧ x1 < 5) (bl (up w16 20 x1.toNat (wr ((w16 20 x1.toNat) + 1))) fun w20 => some (w20, 1))))))))) else (gd (0 ≤ x2 ∧ x2 < 10) (bl (wr ((wr ((wr (3 * (wr ((wr (50 * x1)) + v2)))) + (w 3 x2.toNat))) - 1)) fun n23 => gd (0 ≤ x2 ∧ x2 < 10) (if (w 3 x2.toNat) = 1 then (f_Re_take_70 w x2 n23 x3) else (gd (0 ≤ x2 ∧ x2 < 10) (if (w 3 x2.toNat) = 2 then (f_Re_take_70 w x2 n23 x4) else (f_Re_take_70 w x2 n23 x5))))))
noncomputable def f_Re_begin_2B (w : World) (x1 : Int) : Option ((World × Int) ⊕ World) :=
  if 8 ≤ x1 then (bl (up w 1 30 0) fun w3 => some (Sum.inr w3)) else (gd (0 ≤ x1 ∧ x1 < 8) (bl (up w 24 x1.toNat (-9)) fun w5 => bl (wr (x1 + 1)) fun n6 => some (Sum.inl (w5, n6))))
noncomputable def f_Re_begin_2 (w : World) (x1 : Int) : Option World :=
  lp (fun z : (World × Int) => f_Re_begin_2B z.1 z.2) (w, x1)
noncomputable def f_Re_begin (w : World) : Option World :=
  f_Re_begin_2 w 0
noncomputable def f_Re_unbind_34 (w : World) (x1 : Int) (x2 : Int) (s1 : Int) (s2 : Int) : Option ((World × Int) ⊕ World) :=
  gd (0 ≤ s1 ∧ s1 < 8) (bl (up w 24 s1.toNat s2) fun w2 => bl (wr (x2 + 1)) fun n3 => some (Sum.inl (w2, n3)))
noncomputable def f_Re_unbind_2B (w : World) (x1 : Int) (x2 : Int) : Option ((World × Int) ⊕ World) :=
  if 8 ≤ x2 then (some (Sum.inr w)) else (gd (0 ≤ x2 ∧ x2 < 8) (if (w 24 x2.toNat) = x1 then (f_Re_unbind_34 w x1 x2 x2 (-9)) else (gd (0 ≤ x2 ∧ x2 < 8) (f_Re_unbind_34 w x1 x2 x2 (w 24 x2.toNat)))))
noncomputable def f_Re_unbind_2 (w : World) (x1 : Int) (x2 : Int) : Option World :=
  lp (fun z : (World × Int) => f_Re_unbind_2B z.1 x1 z.2) (w, x2)
noncomputable def f_Re_unbind (w : World) (x1 : Int) : Option World :=
  f_Re_unbind_2 w x1 0
noncomputable def f_Re_isBound_17 (w : World) : Option Int :=
  some 1
noncomputable def f_Re_isBound (w : World) (x1 : Int) : Option Int :=
  if 0 ≤ x1 then (f_Re_isBound_17 w) else (gd (0 ≤ wr ((-1) - x1) ∧ wr ((-1) - x1) < 8) (if (w 24 (wr ((-1) - x1)).toNat) = (-9) then (some 0) else (f_Re_isBound_17 w)))
noncomputable def f_Re_valueOf (w : World) (x1 : Int) : Option Int :=
  if x1 < 0 then (gd (0 ≤ wr ((-1) - x1) ∧ wr ((-1) - x1) < 8) (some (w 23 (wr ((-1) - x1)).toNat))) else (some x1)
noncomputable def f_Re_match (w : World) (x1 : Int) (x2 : Int) (x3 : Int) : Option (World × Int) :=
  bnd (f_Re_isBound w x2) fun v2 => if v2 = 0 then (gd (0 ≤ wr ((-1) - x2) ∧ wr ((-1) - x2) < 8) (bl (up w 23 (wr ((-1) - x2)).toNat x3) fun w7 => gd (0 ≤ wr ((-1) - x2) ∧ wr ((-1) - x2) < 8) (bl (up w7 24 (wr ((-1) - x2)).toNat x1) fun w9 => some (w9, 1)))) else (bnd (f_Re_valueOf w x2) fun v11 => if v11 = x3 then (some (w, 1)) else (some (w, 0)))
noncomputable def f_Re_fits_93 (w : World) (x1 : Int) (x5 : Int) : Option (World × Int) :=
  if x5 = 0 then (bnd (f_Re_unbind w x1) fun v5 => gd (x5 = 0 ∨ x5 = 1) (some (v5, x5))) else (gd (x5 = 0 ∨ x5 = 1) (some (w, x5)))
noncomputable def f_Re_fits_31B (w : World) (x1 : Int) (x2 : Int) (x3 : Int) (x4 : Int) (x5 : Int) (x6 : Int) : Option ((World × Int × Int) ⊕ (World × Int)) :=
  if x5 = 0 then (bnd (f_Re_fits_93 w x1 x5) fun y3 => some (Sum.inr y3)) else (gd (0 ≤ x2 ∧ x2 < 95) (gd (0 ≤ w 18 x2.toNat ∧ w 18 x2.toNat < 10) (if (w 3 (w 18 x2.toNat).toNat) ≤ x6 then (bnd (f_Re_fits_93 w x1 x5) fun y10 => some (Sum.inr y10)) else (gd (0 ≤ wr ((wr (3 * x2)) + x6) ∧ wr ((wr (3 * x2)) + x6) < 285) (gd (0 ≤ wr ((wr (3 * (wr ((wr (50 * x3)) + x4)))) + x6) ∧ wr ((wr (3 * (wr ((wr (50 * x3)) + x4)))) + x6) < 750) (bnd (f_Re_match w x1 (w 19 (wr ((wr (3 * x2)) + x6)).toNat) (w 22 (wr ((wr (3 * (wr ((wr (50 * x3)) + x4)))) + x6)).toNat)) fun v16 => bl (wr (x6 + 1)) fun n18 => some (Sum.inl (v16.1, v16.2, n18))))))))
noncomputable def f_Re_fits_31 (w : World) (x1 : Int) (x2 : Int) (x3 : Int) (x4 : Int) (x5 : Int) (x6 : Int) : Option (World × Int) :=
  lp (fun z : (World × Int × Int) => f_Re_fits_31B z.1 x1 x2 x3 x4 z.2.1 z.2.2) (w, x5, x6)
noncomputable def f_Re_fits_26 (w : World) (x1 : Int) (x2 : Int) (x3 : Int) (x4 : Int) (s0 : Int) : Option (World × Int) :=
  f_Re_fits_31 w x1 x2 x3 x4 s0 0
noncomputable def f_Re_fits (w : World) (x1 : Int) (x2 : Int) (x3 : Int) (x4 : Int) : Option (World × Int) :=
  gd (0 ≤ wr ((wr (50 * x3)) + x4) ∧ wr ((wr (50 * x3)) + x4) < 250) (gd (0 ≤ x2 ∧ x2 < 95) (if (w 21 (wr ((wr (50 * x3)) + x4)).toNat) = (w 18 x2.toNat) then (f_Re_fits_26 w x1 x2 x3 x4 1) else (f_Re_fits_26 w x1 x2 x3 x4 0)))
noncomputable def f_Re_has_130 (w : World) (x1 : Int) (x2 : Int) (x4 : Int) (s0 : Int) : Option ((Int × Int) ⊕ Int) :=
  bl (wr (x4 + 1)) fun n1 => some (Sum.inl (s0, n1))
noncomputable def f_Re_has_125 (w : World) (x1 : Int) (x2 : Int) (x4 : Int) : Option ((Int × Int) ⊕ Int) :=
  f_Re_has_130 w x1 x2 x4 1
noncomputable def f_Re_has_116 (w : World) (x1 : Int) (x2 : Int) (x3 : Int) (x4 : Int) (x5 : Int) : Option ((Int × Int) ⊕ Int) :=
  if x3 = 0 then (if x5 = 0 then (f_Re_has_130 w x1 x2 x4 0) else (f_Re_has_125 w x1 x2 x4)) else (f_Re_has_125 w x1 x2 x4)
noncomputable def f_Re_has_108 (w : World) (x1 : Int) (x2 : Int) (x3 : Int) (x4 : Int) (x6 : Int) (s0 : Int) : Option ((Int × Int) ⊕ ((Int × Int) ⊕ Int)) :=
  bl (wr (x6 + 1)) fun n1 => some (Sum.inl (s0, n1))
noncomputable def f_Re_has_47B (w : World) (x1 : Int) (x2 : Int) (x3 : Int) (x4 : Int) (x5 : Int) (x6 : Int) : Option ((Int × Int) ⊕ ((Int × Int) ⊕ Int)) :=
  if x5 = 0 then (bnd (f_Re_has_116 w x1 x2 x3 x4 x5) fun y3 => some (Sum.inr y3)) else (gd (0 ≤ x1 ∧ x1 < 95) (gd (0 ≤ w 18 x1.toNat ∧ w 18 x1.toNat < 10) (if (w 3 (w 18 x1.toNat).toNat) ≤ x6 then (bnd (f_Re_has_116 w x1 x2 x3 x4 x5) fun y10 => some (Sum.inr y10)) else (gd (0 ≤ wr ((wr (3 * (wr ((wr (50 * x2)) + x4)))) + x6) ∧ wr ((wr (3 * (wr ((wr (50 * x2)) + x4)))) + x6) < 750) (gd (0 ≤ wr ((wr (3 * x1)) + x6) ∧ wr ((wr (3 * x1)) + x6) < 285) (bnd (f_Re_valueOf w (w 19 (wr ((wr (3 * x1)) + x6)).toNat)) fun v16 => if (w 22 (wr ((wr (3 * (wr ((wr (50 * x2)) + x4)))) + x6)).toNat) = v16 then (f_Re_has_108 w x1 x2 x3 x4 x6 1) else (f_Re_has_108 w x1 x2 x3 x4 x6 0)))))))
noncomputable def f_Re_has_47 (w : World) (x1 : Int) (x2 : Int) (x3 : Int) (x4 : Int) (x5 : Int) (x6 : Int) : Option ((Int × Int) ⊕ Int) :=
  lp (fun z : (Int × Int) => f_Re_has_47B w x1 x2 x3 x4 z.1 z.2) (x5, x6)
noncomputable def f_Re_has_42 (w : World) (x1 : Int) (x2 : Int) (x3 : Int) (x4 : Int) (s0 : Int) : Option ((Int × Int) ⊕ Int) :=
  f_Re_has_47 w x1 x2 x3 x4 s0 0
noncomputable def f_Re_has_5B (w : World) (x1 : Int) (x2 : Int) (x3 : Int) (x4 : Int) : Option ((Int × Int) ⊕ Int) :=
  gd (0 ≤ x2 ∧ x2 < 5) (if (w 20 x2.toNat) ≤ x4 then (gd (x3 = 0 ∨ x3 = 1) (some (Sum.inr x3))) else (gd (0 ≤ wr ((wr (50 * x2)) + x4) ∧ wr ((wr (50 * x2)) + x4) < 250) (gd (0 ≤ x1 ∧ x1 < 95) (if (w 21 (wr ((wr (50 * x2)) + x4)).toNat) = (w 18 x1.toNat) then (f_Re_has_42 w x1 x2 x3 x4 1) else (f_Re_has_42 w x1 x2 x3 x4 0)))))
noncomputable def f_Re_has_5 (w : World) (x1 : Int) (x2 : Int) (x3 : Int) (x4 : Int) : Option Int :=
  lp (fun z : (Int × Int) => f_Re_has_5B w x1 x2 z.1 z.2) (x3, x4)
noncomputable def f_Re_has (w : World) (x1 : Int) (x2 : Int) : Option Int :=
  f_Re_has_5 w x1 x2 0 0
noncomputable def f_Re_compares (x0 : Int) (x1 : Int) (x2 : Int) : Option Int :=
  if x0 = 0 then (if x1 = x2 then (some 1) else (some 0)) else (if x0 = 1 then (if x1 = x2 then (some 0) else (some 1)) else (if x0 = 2 then (if x2 ≤ x1 then (some 0) else (some 1)) else (if x2 < x1 then (some 0) else (some 1))))
noncomputable def f_Re_tries_215 (w : World) (s1 : Int) (s2 : Int) (s3 : Int) : Option (World × Int) :=
  bnd (f_Re_match w s1 s2 s3) fun v2 => gd (v2.2 = 0 ∨ v2.2 = 1) (some (v2.1, v2.2))
noncomputable def f_Re_tries_22B (w : World) (x2 : Int) (x3 : Int) (x4 : Int) : Option (World ⊕ (World × Int)) :=
  gd (0 ≤ x2 ∧ x2 < 5) (gd (0 ≤ x3 ∧ x3 < 5) (if (w 20 x3.toNat) ≤ (w 25 x2.toNat) then (some (Sum.inr (w, 0))) else (gd (0 ≤ x2 ∧ x2 < 5) (gd (0 ≤ x2 ∧ x2 < 5) (bl (up w 25 x2.toNat (wr ((w 25 x2.toNat) + 1))) fun w10 => gd (0 ≤ x2 ∧ x2 < 5) (bnd (f_Re_fits w10 x2 x4 x3 (wr ((w10 25 x2.toNat) - 1))) fun v14 => if v14.2 = 0 then (some (Sum.inl v14.1)) else (some (Sum.inr (v14.1, 1)))))))))
noncomputable def f_Re_tries_22 (w : World) (x2 : Int) (x3 : Int) (x4 : Int) : Option (World × Int) :=
  lp (fun z : World => f_Re_tries_22B z x2 x3 x4) w
noncomputable def f_Re_tries (w : World) (x1 : Int) (x2 : Int) (x3 : Int) : Option (World × Int) :=
  bl (wr ((wr (5 * x1)) + x2)) fun n1 => bnd (f_Re_unbind w x2) fun v3 => gd (0 ≤ n1 ∧ n1 < 95) (if (v3 17 n1.toNat) = 0 then (f_Re_tries_22 v3 x2 x3 n1) else (gd (0 ≤ x2 ∧ x2 < 5) (if (v3 25 x2.toNat) ≤ 0 then (gd (0 ≤ x2 ∧ x2 < 5) (bl (up v3 25 x2.toNat 1) fun w14 => gd (0 ≤ wr (3 * n1) ∧ wr (3 * n1) < 285) (bl (w14 19 (wr (3 * n1)).toNat) fun n17 => gd (0 ≤ wr ((wr (3 * n1)) + 1) ∧ wr ((wr (3 * n1)) + 1) < 285) (bl (w14 19 (wr ((wr (3 * n1)) + 1)).toNat) fun n20 => gd (0 ≤ n1 ∧ n1 < 95) (if (w14 17 n1.toNat) = 1 then (bnd (f_Re_has w14 n1 x3) fun v53 => if v53 = 0 then (some (w14, 1)) else (some (w14, 0))) else (gd (0 ≤ n1 ∧ n1 < 95) (if (w14 17 n1.toNat) = 2 then (gd (0 ≤ n1 ∧ n1 < 95) (bnd (f_Re_valueOf w14 n17) fun v43 => bnd (f_Re_valueOf w14 n20) fun v46 => bnd (f_Re_compares (w14 18 n1.toNat) v43 v46) fun v49 => gd (v49 = 0 ∨ v49 = 1) (some (w14, v49)))) else (bnd (f_Re_valueOf w14 n20) fun v30 => gd (0 ≤ wr ((wr (3 * n1)) + 2) ∧ wr ((wr (3 * n1)) + 2) < 285) (bnd (f_Re_valueOf w14 (w14 19 (wr ((wr (3 * n1)) + 2)).toNat)) fun v35 => bl (wr (v30 + v35)) fun n37 => if n37 ≤ 127 then (f_Re_tries_215 w14 x2 n17 n37) else (f_Re_tries_215 w14 x2 n17 127)))))))))) else (some (v3, 0)))))
noncomputable def f_Re_next_106 (w : World) : Option (World × Int) :=
  if (w 1 29) < 0 then (some (w, 0)) else (some (w, 1))
noncomputable def f_Re_next_34B (w : World) (x1 : Int) (x2 : Int) (x3 : Int) : Option (World ⊕ (World × Int)) :=
  if (w 1 29) < 0 then (bnd (f_Re_next_106 w) fun y4 => some (Sum.inr y4)) else (if x2 ≤ (w 1 29) then (bnd (f_Re_next_106 w) fun y8 => some (Sum.inr y8)) else (bnd (f_Re_tries w x1 (w 1 29) x3) fun v11 => if v11.2 = 0 then (bl (up v11.1 1 29 (wr ((v11.1 1 29) - 1))) fun w16 => some (Sum.inl w16)) else (bl (up v11.1 1 29 (wr ((v11.1 1 29) + 1))) fun w18 => if x2 ≤ (w18 1 29) then (some (Sum.inl w18)) else (gd (0 ≤ w18 1 29 ∧ w18 1 29 < 5) (bl (up w18 25 (w18 1 29).toNat 0) fun w24 => some (Sum.inl w24))))))
noncomputable def f_Re_next_34 (w : World) (x1 : Int) (x2 : Int) (x3 : Int) : Option (World × Int) :=
  lp (fun z : World => f_Re_next_34B z x1 x2 x3) w
noncomputable def f_Re_next (w : World) (x1 : Int) (x2 : Int) (x3 : Int) : Option (World × Int) :=
  if (w 1 30) = 0 then (bl (up w 1 30 1) fun w4 => bl (up w4 1 29 0) fun w5 => bl (up w5 25 0 0) fun w6 => f_Re_next_34 w6 x1 x2 x3) else (bl (up w 1 29 (wr (x2 - 1))) fun w7 => f_Re_next_34 w7 x1 x2 x3)
noncomputable def f_Re_headValue (w : World) (x1 : Int) (x2 : Int) : Option Int :=
  gd (0 ≤ x1 ∧ x1 < 19) (gd (0 ≤ w 14 x1.toNat ∧ w 14 x1.toNat < 10) (if (w 3 (w 14 x1.toNat).toNat) ≤ x2 then (some 0) else (gd (0 ≤ wr ((wr (3 * x1)) + x2) ∧ wr ((wr (3 * x1)) + x2) < 57) (bnd (f_Re_valueOf w (w 15 (wr ((wr (3 * x1)) + x2)).toNat)) fun v10 => some v10))))
noncomputable def f_Re_round_125 (w : World) (x1 : Int) (x2 : Int) (x3 : Int) (x4 : Int) : Option ((World × Int × Int) ⊕ (World × Int)) :=
  bl (wr (x4 + 1)) fun n1 => some (Sum.inl (w, x3, n1))
noncomputable def f_Re_round_121 (w : World) (x1 : Int) (x2 : Int) (x4 : Int) (s0 : Int) : Option ((World × Int) ⊕ ((World × Int × Int) ⊕ (World × Int))) :=
  some (Sum.inl (w, s0))
noncomputable def f_Re_round_116 (w : World) (x1 : Int) (x2 : Int) (x4 : Int) : Option ((World × Int) ⊕ ((World × Int × Int) ⊕ (World × Int))) :=
  f_Re_round_121 w x1 x2 x4 1
noncomputable def f_Re_round_44B (w : World) (x1 : Int) (x2 : Int) (x3 : Int) (x4 : Int) : Option ((World × Int) ⊕ ((World × Int × Int) ⊕ (World × Int))) :=
  gd (0 ≤ x1 ∧ x1 < 5) (if 48 < (w 20 x1.toNat) then (bnd (f_Re_round_125 w x1 x2 x3 x4) fun y5 => some (Sum.inr y5)) else (gd (0 ≤ x4 ∧ x4 < 19) (bnd (f_Re_next w x4 (w 16 x4.toNat) x1) fun v9 => if v9.2 = 0 then (bnd (f_Re_round_125 v9.1 x1 x2 x3 x4) fun y13 => some (Sum.inr y13)) else (gd (0 ≤ x4 ∧ x4 < 19) (bnd (f_Re_headValue v9.1 x4 0) fun v17 => bnd (f_Re_headValue v9.1 x4 1) fun v20 => bnd (f_Re_headValue v9.1 x4 2) fun v23 => bnd (f_Re_take v9.1 x1 (v9.1 14 x4.toNat) v17 v20 v23) fun v26 => if x3 = 0 then (if v26.2 = 0 then (f_Re_round_121 v26.1 x1 x2 x4 0) else (f_Re_round_116 v26.1 x1 x2 x4)) else (f_Re_round_116 v26.1 x1 x2 x4))))))
noncomputable def f_Re_round_44 (w : World) (x1 : Int) (x2 : Int) (x3 : Int) (x4 : Int) : Option ((World × Int × Int) ⊕ (World × Int)) :=
  lp (fun z : (World × Int) => f_Re_round_44B z.1 x1 x2 z.2 x4) (w, x3)
noncomputable def f_Re_round_5B (w : World) (x1 : Int) (x2 : Int) (x3 : Int) (x4 : Int) : Option ((World × Int × Int) ⊕ (World × Int)) :=
  if (w 1 14) ≤ x4 then (gd (x3 = 0 ∨ x3 = 1) (some (Sum.inr (w, x3)))) else (gd (0 ≤ x4 ∧ x4 < 12) (if (w 13 x4.toNat) = 0 then (gd (0 ≤ x4 ∧ x4 < 19) (gd (0 ≤ w 14 x4.toNat ∧ w 14 x4.toNat < 10) (if (w 6 (w 14 x4.toNat).toNat) = x2 then (bnd (f_Re_begin w ) fun v16 => f_Re_round_44 v16 x1 x2 x3 x4) else (f_Re_round_125 w x1 x2 x3 x4)))) else (f_Re_round_125 w x1 x2 x3 x4)))
noncomputable def f_Re_round_5 (w : World) (x1 : Int) (x2 : Int) (x3 : Int) (x4 : Int) : Option (World × Int) :=
  lp (fun z : (World × Int × Int) => f_Re_round_5B z.1 x1 x2 z.2.1 z.2.2) (w, x3, x4)
noncomputable def f_Re_round (w : World) (x1 : Int) (x2 : Int) : Option (World × Int) :=
  f_Re_round_5 w x1 x2 0 0
noncomputable def f_Re_build_189 (w : World) (x1 : Int) (x2 : Int) (x3 : Int) (x4 : Int) (x5 : Int) (s0 : Int) : Option ((World × Int × Int) ⊕ ((World × Int × Int) ⊕ (World × Int))) :=
  some (Sum.inl (w, x4, s0))
noncomputable def f_Re_build_188 (w : World) (x1 : Int) (x2 : Int) (x3 : Int) (x4 : Int) (x5 : Int) : Option ((World × Int × Int) ⊕ ((World × Int × Int) ⊕ (World × Int))) :=
  f_Re_build_189 w x1 x2 x3 x4 x5 0
noncomputable def f_Re_build_172 (w : World) (x1 : Int) (x2 : Int) (x3 : Int) (x5 : Int) (x6 : Int) (s0 : Int) : Option ((World × Int × Int) ⊕ ((World × Int × Int) ⊕ (World × Int))) :=
  if x6 = 0 then (f_Re_build_188 w x1 x2 x3 s0 x5) else (if s0 = 0 then (f_Re_build_188 w x1 x2 x3 s0 x5) else (f_Re_build_189 w x1 x2 x3 s0 x5 1))
noncomputable def f_Re_build_142B (w : World) (x1 : Int) (x2 : Int) (x3 : Int) (x4 : Int) (x5 : Int) (x6 : Int) : Option ((World × Int × Int) ⊕ ((World × Int × Int) ⊕ (World × Int))) :=
  if x6 = 0 then (bl (wr (x5 + 1)) fun n3 => some (Sum.inr (Sum.inl (w, x4, n3)))) else (bnd (f_Re_round w x1 x5) fun v5 => gd (0 ≤ x1 ∧ x1 < 5) (if 48 < (v5.1 20 x1.toNat) then (f_Re_build_172 v5.1 x1 x2 x3 x5 v5.2 0) else (f_Re_build_172 v5.1 x1 x2 x3 x5 v5.2 1)))
noncomputable def f_Re_build_142 (w : World) (x1 : Int) (x2 : Int) (x3 : Int) (x4 : Int) (x5 : Int) (x6 : Int) : Option ((World × Int × Int) ⊕ (World × Int)) :=
  lp (fun z : (World × Int × Int) => f_Re_build_142B z.1 x1 x2 x3 z.2.1 x5 z.2.2) (w, x4, x6)
noncomputable def f_Re_build_138 (w : World) (x1 : Int) (x2 : Int) (x3 : Int) (x4 : Int) (x5 : Int) : Option ((World × Int × Int) ⊕ (World × Int)) :=
  f_Re_build_142 w x1 x2 x3 x4 x5 x4
noncomputable def f_Re_build_132 (w : World) (x1 : Int) (x2 : Int) (x3 : Int) (x4 : Int) (x5 : Int) (x6 : Int) : Option ((World × Int × Int) ⊕ ((World × Int × Int) ⊕ (World × Int))) :=
  bl (wr (x6 + 1)) fun n1 => some (Sum.inl (w, x4, n1))
noncomputable def f_Re_build_130 (w : World) (x1 : Int) (x2 : Int) (x3 : Int) (x5 : Int) (x6 : Int) (s0 : Int) : Option ((World × Int × Int) ⊕ ((World × Int × Int) ⊕ (World × Int))) :=
  f_Re_build_132 w x1 x2 x3 s0 x5 x6
noncomputable def f_Re_build_28B (w : World) (x1 : Int) (x2 : Int) (x3 : Int) (x4 : Int) (x5 : Int) (x6 : Int) : Option ((World × Int × Int) ⊕ ((World × Int × Int) ⊕ (World × Int))) :=
  if (w 1 7) ≤ x6 then (bnd (f_Re_build_138 w x1 x2 x3 x4 x5) fun y4 => some (Sum.inr y4)) else (if x4 = 0 then (bnd (f_Re_build_138 w x1 x2 x3 x4 x5) fun y7 => some (Sum.inr y7)) else (gd (0 ≤ x6 ∧ x6 < 24) (gd (0 ≤ w 7 x6.toNat ∧ w 7 x6.toNat < 10) (if (w 6 (w 7 x6.toNat).toNat) = x5 then (bnd (f_Re_holdsIn w x6 x2 x3) fun v15 => if v15 = 0 then (f_Re_build_132 w x1 x2 x3 x4 x5 x6) else (gd (0 ≤ x6 ∧ x6 < 24) (gd (0 ≤ wr (3 * x6) ∧ wr (3 * x6) < 72) (gd (0 ≤ wr ((wr (3 * x6)) + 1) ∧ wr ((wr (3 * x6)) + 1) < 72) (gd (0 ≤ wr ((wr (3 * x6)) + 2) ∧ wr ((wr (3 * x6)) + 2) < 72) (bnd (f_Re_take w x1 (w 7 x6.toNat) (w 8 (wr (3 * x6)).toNat) (w 8 (wr ((wr (3 * x6)) + 1)).toNat) (w 8 (wr ((wr (3 * x6)) + 2)).toNat)) fun v28 => gd (0 ≤ x1 ∧ x1 < 5) (if 48 < (v28.1 20 x1.toNat) then (f_Re_build_130 v28.1 x1 x2 x3 x5 x6 0) else (f_Re_build_130 v28.1 x1 x2 x3 x5 x6 1)))))))) else (f_Re_build_132 w x1 x2 x3 x4 x5 x6)))))
noncomputable def f_Re_build_28 (w : World) (x1 : Int) (x2 : Int) (x3 : Int) (x4 : Int) (x5 : Int) (x6 : Int) : Option ((World × Int × Int) ⊕ (World × Int)) :=
  lp (fun z : (World × Int × Int) => f_Re_build_28B z.1 x1 x2 x3 z.2.1 x5 z.2.2) (w, x4, x6)
noncomputable def f_Re_build_13B (w : World) (x1 : Int) (x2 : Int) (x3 : Int) (x4 : Int) (x5 : Int) : Option ((World × Int × Int) ⊕ (World × Int)) :=
  if 10 ≤ x5 then (gd (x4 = 0 ∨ x4 = 1) (some (Sum.inr (w, x4)))) else (if x4 = 0 then (gd (x4 = 0 ∨ x4 = 1) (some (Sum.inr (w, x4)))) else (f_Re_build_28 w x1 x2 x3 x4 x5 0))
noncomputable def f_Re_build_13 (w : World) (x1 : Int) (x2 : Int) (x3 : Int) (x4 : Int) (x5 : Int) : Option (World × Int) :=
  lp (fun z : (World × Int × Int) => f_Re_build_13B z.1 x1 x2 x3 z.2.1 z.2.2) (w, x4, x5)
noncomputable def f_Re_build (w : World) (x1 : Int) (x2 : Int) (x3 : Int) : Option (World × Int) :=
  gd (0 ≤ x1 ∧ x1 < 5) (bl (up w 20 x1.toNat 0) fun w2 => f_Re_build_13 w2 x1 x2 x3 1 0)
noncomputable def f_Re_buildAll_30 (w : World) (x2 : Int) (s0 : Int) : Option ((World × Int × Int) ⊕ (World × Int)) :=
  bl (wr (x2 + 1)) fun n1 => some (Sum.inl (w, s0, n1))
noncomputable def f_Re_buildAll_29 (w : World) (x2 : Int) : Option ((World × Int × Int) ⊕ (World × Int)) :=
  f_Re_buildAll_30 w x2 0
noncomputable def f_Re_buildAll_4B (w : World) (x1 : Int) (x2 : Int) : Option ((World × Int × Int) ⊕ (World × Int)) :=
  if 4 ≤ x2 then (gd (x1 = 0 ∨ x1 = 1) (some (Sum.inr (w, x1)))) else (bnd (f_Re_build w x2 x2 0) fun v5 => if x1 = 0 then (f_Re_buildAll_29 v5.1 x2) else (if v5.2 = 0 then (f_Re_buildAll_29 v5.1 x2) else (f_Re_buildAll_30 v5.1 x2 1)))
noncomputable def f_Re_buildAll_4 (w : World) (x1 : Int) (x2 : Int) : Option (World × Int) :=
  lp (fun z : (World × Int × Int) => f_Re_buildAll_4B z.1 z.2.1 z.2.2) (w, x1, x2)
noncomputable def f_Re_buildAll (w : World) : Option (World × Int) :=
  f_Re_buildAll_4 w 1 0
noncomputable def f_Re_fact_96 (w : World) (x1 : Int) (x2 : Int) (x3 : Int) (x4 : Int) (x5 : Int) (x6 : Int) (x7 : Int) (s1 : Int) : Option (World × Int) :=
  bnd (f_Re_refused w s1) fun v2 => if v2.2 = 0 then (gd (0 ≤ v2.1 1 7 ∧ v2.1 1 7 < 24) (bl (up v2.1 7 (v2.1 1 7).toNat x1) fun w8 => gd (0 ≤ wr (3 * (w8 1 7)) ∧ wr (3 * (w8 1 7)) < 72) (bl (up w8 8 (wr (3 * (w8 1 7))).toNat x2) fun w11 => gd (0 ≤ wr ((wr (3 * (w11 1 7))) + 1) ∧ wr ((wr (3 * (w11 1 7))) + 1) < 72) (bl (up w11 8 (wr ((wr (3 * (w11 1 7))) + 1)).toNat x3) fun w14 => gd (0 ≤ wr ((wr (3 * (w14 1 7))) + 2) ∧ wr ((wr (3 * (w14 1 7))) + 2) < 72) (bl (up w14 8 (wr ((wr (3 * (w14 1 7))) + 2)).toNat x4) fun w17 => gd (0 ≤ w17 1 7 ∧ w17 1 7 < 24) (bl (up w17 9 (w17 1 7).toNat x5) fun w20 => gd (0 ≤ w20 1 7 ∧ w20 1 7 < 24) (bl (up w20 10 (w20 1 7).toNat x6) fun w23 => gd (0 ≤ w23 1 7 ∧ w23 1 7 < 24) (bl (up w23 11 (w23 1 7).toNat x7) fun w26 => gd (0 ≤ w26 1 7 ∧ w26 1 7 < 24) (bl (up w26 12 (w26 1 7).toNat 0) fun w29 => bl (up w29 1 7 (wr ((w29 1 7) + 1))) fun w31 => bnd (f_Re_buildAll w31 ) fun v33 => if v33.2 = 0 then (bl (up v33.1 1 7 (wr ((v33.1 1 7) - 1))) fun w39 => bnd (f_Re_buildAll w39 ) fun v41 => bnd (f_Re_refused v41.1 3) fun v44 => some (v44.1, 0)) else (some (v33.1, wr ((v33.1 1 7) - 1)))))))))))) else (some (v2.1, 0))
noncomputable def f_Re_fact_58 (w : World) (x1 : Int) (x2 : Int) (x3 : Int) (x4 : Int) (x5 : Int) (x6 : Int) (x7 : Int) (s0 : Int) : Option (World × Int) :=
  bnd (f_Re_isRelation w x1) fun v2 => if v2 = 0 then (f_Re_fact_96 w x1 x2 x3 x4 x5 x6 x7 1) else (if s0 = 0 then (f_Re_fact_96 w x1 x2 x3 x4 x5 x6 x7 2) else (if (w 1 7) = 24 then (f_Re_fact_96 w x1 x2 x3 x4 x5 x6 x7 3) else (f_Re_fact_96 w x1 x2 x3 x4 x5 x6 x7 0)))
noncomputable def f_Re_fact_57 (w : World) (x1 : Int) (x2 : Int) (x3 : Int) (x4 : Int) (x5 : Int) (x6 : Int) (x7 : Int) : Option (World × Int) :=
  f_Re_fact_58 w x1 x2 x3 x4 x5 x6 x7 0
noncomputable def f_Re_fact (w : World) (x1 : Int) (x2 : Int) (x3 : Int) (x4 : Int) (x5 : Int) (x6 : Int) (x7 : Int) : Option (World × Int) :=
  bnd (f_Re_isRelation w x1) fun v2 => if v2 = 0 then (f_Re_fact_57 w x1 x2 x3 x4 x5 x6 x7) else (bnd (f_Re_areValues w x1 x2 x3 x4 0) fun v7 => if v7 = 0 then (f_Re_fact_57 w x1 x2 x3 x4 x5 x6 x7) else (bnd (f_Re_in x5 1 100) fun v12 => if v12 = 0 then (f_Re_fact_57 w x1 x2 x3 x4 x5 x6 x7) else (bnd (f_Re_in x6 0 3) fun v17 => if v17 = 0 then (f_Re_fact_57 w x1 x2 x3 x4 x5 x6 x7) else (bnd (f_Re_in x7 x6 3) fun v22 => if v22 = 0 then (f_Re_fact_57 w x1 x2 x3 x4 x5 x6 x7) else (f_Re_fact_58 w x1 x2 x3 x4 x5 x6 x7 1)))))
noncomputable def f_Re_drop_107 (w : World) (x4 : Int) (s0 : Int) (s1 : Int) : Option ((Int × Int) ⊕ (World × Int)) :=
  bl (wr (s0 + s1)) fun n1 => bl (wr (x4 + 1)) fun n2 => some (Sum.inl (n1, n2))
noncomputable def f_Re_drop_82B (w : World) (x3 : Int) (x4 : Int) : Option ((Int × Int) ⊕ (World × Int)) :=
  if (w 1 7) ≤ x4 then (some (Sum.inr (w, x3))) else (gd (0 ≤ x4 ∧ x4 < 24) (if (w 12 x4.toNat) = 0 then (f_Re_drop_107 w x4 x3 1) else (f_Re_drop_107 w x4 x3 0)))
noncomputable def f_Re_drop_82 (w : World) (x3 : Int) (x4 : Int) : Option (World × Int) :=
  lp (fun z : (Int × Int) => f_Re_drop_82B w z.1 z.2) (x3, x4)
noncomputable def f_Re_drop_35 (w : World) (x1 : Int) (s1 : Int) : Option (World × Int) :=
  bnd (f_Re_refused w s1) fun v2 => if v2.2 = 0 then (gd (0 ≤ x1 ∧ x1 < 24) (bl (up v2.1 12 x1.toNat 1) fun w7 => bnd (f_Re_buildAll w7 ) fun v9 => if v9.2 = 0 then (gd (0 ≤ x1 ∧ x1 < 24) (bl (up v9.1 12 x1.toNat 0) fun w14 => bnd (f_Re_buildAll w14 ) fun v16 => bnd (f_Re_refused v16.1 2) fun v19 => some (v19.1, 0))) else (f_Re_drop_82 v9.1 0 0))) else (some (v2.1, 0))
noncomputable def f_Re_drop (w : World) (x1 : Int) : Option (World × Int) :=
  bnd (f_Re_in x1 0 (wr ((w 1 7) - 1))) fun v3 => if v3 = 0 then (f_Re_drop_35 w x1 1) else (gd (0 ≤ x1 ∧ x1 < 24) (if (w 12 x1.toNat) = 0 then (f_Re_drop_35 w x1 0) else (f_Re_drop_35 w x1 2)))
noncomputable def f_Re_pass_14 (w : World) (s1 : Int) : Option (World × Int) :=
  bnd (f_Re_refused w s1) fun v2 => if v2.2 = 0 then (bl (up v2.1 1 1 (wr ((v2.1 1 1) + 1))) fun w7 => some (w7, w7 1 1)) else (some (v2.1, 0))
noncomputable def f_Re_pass (w : World) : Option (World × Int) :=
  if (w 1 1) = 3 then (f_Re_pass_14 w 1) else (f_Re_pass_14 w 0)
noncomputable def f_Re_head_30 (w : World) (x1 : Int) (x2 : Int) (x3 : Int) (x4 : Int) (s1 : Int) : Option World :=
  bnd (f_Re_refused w s1) fun v2 => if v2.2 = 0 then (bl (up v2.1 14 18 x1) fun w6 => bl (up w6 15 54 x2) fun w7 => bl (up w7 15 55 x3) fun w8 => bl (up w8 15 56 x4) fun w9 => some w9) else (some v2.1)
noncomputable def f_Re_head (w : World) (x1 : Int) (x2 : Int) (x3 : Int) (x4 : Int) : Option World :=
  bnd (f_Re_isRelation w x1) fun v2 => if v2 = 0 then (f_Re_head_30 w x1 x2 x3 x4 1) else (bnd (f_Re_areTerms w x1 x2 x3 x4) fun v7 => if v7 = 0 then (f_Re_head_30 w x1 x2 x3 x4 2) else (f_Re_head_30 w x1 x2 x3 x4 0))
noncomputable def f_Re_put (w : World) (x1 : Int) (x2 : Int) (x3 : Int) (x4 : Int) (x5 : Int) : Option (World × Int) :=
  bl (wr (90 + (w 16 18))) fun n2 => gd (0 ≤ n2 ∧ n2 < 95) (bl (up w 17 n2.toNat x1) fun w4 => gd (0 ≤ n2 ∧ n2 < 95) (bl (up w4 18 n2.toNat x2) fun w6 => gd (0 ≤ wr (3 * n2) ∧ wr (3 * n2) < 285) (bl (up w6 19 (wr (3 * n2)).toNat x3) fun w8 => gd (0 ≤ wr ((wr (3 * n2)) + 1) ∧ wr ((wr (3 * n2)) + 1) < 285) (bl (up w8 19 (wr ((wr (3 * n2)) + 1)).toNat x4) fun w10 => gd (0 ≤ wr ((wr (3 * n2)) + 2) ∧ wr ((wr (3 * n2)) + 2) < 285) (bl (up w10 19 (wr ((wr (3 * n2)) + 2)).toNat x5) fun w12 => bl (up w12 16 18 (wr ((w12 16 18) + 1))) fun w14 => some (w14, w14 16 18))))))
noncomputable def f_Re_atomsOf_35 (w : World) (x1 : Int) (x3 : Int) (s0 : Int) (s1 : Int) : Option ((Int × Int) ⊕ Int) :=
  bl (wr (s0 + s1)) fun n1 => bl (wr (x3 + 1)) fun n2 => some (Sum.inl (n1, n2))
noncomputable def f_Re_atomsOf_6B (w : World) (x1 : Int) (x2 : Int) (x3 : Int) : Option ((Int × Int) ⊕ Int) :=
  gd (0 ≤ x1 ∧ x1 < 19) (if (wr ((wr (5 * x1)) + (w 16 x1.toNat))) ≤ x3 then (some (Sum.inr x2)) else (gd (0 ≤ x3 ∧ x3 < 95) (if (w 17 x3.toNat) = 0 then (f_Re_atomsOf_35 w x1 x3 x2 1) else (f_Re_atomsOf_35 w x1 x3 x2 0))))
noncomputable def f_Re_atomsOf_6 (w : World) (x1 : Int) (x2 : Int) (x3 : Int) : Option Int :=
  lp (fun z : (Int × Int) => f_Re_atomsOf_6B w x1 z.1 z.2) (x2, x3)
noncomputable def f_Re_atomsOf (w : World) (x1 : Int) : Option Int :=
  bl (wr (5 * x1)) fun n1 => f_Re_atomsOf_6 w x1 0 n1
noncomputable def f_Re_atom_110 (w : World) (x1 : Int) (x3 : Int) (x4 : Int) (x5 : Int) (s1 : Int) : Option (World × Int) :=
  bnd (f_Re_put w s1 x1 x3 x4 x5) fun v2 => some (v2.1, v2.2)
noncomputable def f_Re_atom_92 (w : World) (x1 : Int) (x2 : Int) (x3 : Int) (x4 : Int) (x5 : Int) (s1 : Int) : Option (World × Int) :=
  bnd (f_Re_refused w s1) fun v2 => if v2.2 = 0 then (if x2 = 0 then (f_Re_atom_110 v2.1 x1 x3 x4 x5 1) else (f_Re_atom_110 v2.1 x1 x3 x4 x5 0)) else (some (v2.1, 0))
noncomputable def f_Re_atom_58 (w : World) (x1 : Int) (x2 : Int) (x3 : Int) (x4 : Int) (x5 : Int) (x6 : Int) (s0 : Int) : Option (World × Int) :=
  bnd (f_Re_isRelation w x1) fun v2 => if v2 = 0 then (f_Re_atom_92 w x1 x2 x3 x4 x5 1) else (if x6 = 0 then (f_Re_atom_92 w x1 x2 x3 x4 x5 2) else (if s0 = 0 then (f_Re_atom_92 w x1 x2 x3 x4 x5 0) else (f_Re_atom_92 w x1 x2 x3 x4 x5 3)))
noncomputable def f_Re_atom_53 (w : World) (x1 : Int) (x2 : Int) (x3 : Int) (x4 : Int) (x5 : Int) (x6 : Int) : Option (World × Int) :=
  f_Re_atom_58 w x1 x2 x3 x4 x5 x6 1
noncomputable def f_Re_atom_57 (w : World) (x1 : Int) (x2 : Int) (x3 : Int) (x4 : Int) (x5 : Int) (x6 : Int) : Option (World × Int) :=
  f_Re_atom_58 w x1 x2 x3 x4 x5 x6 0
noncomputable def f_Re_atom_26 (w : World) (x1 : Int) (x2 : Int) (x3 : Int) (x4 : Int) (x5 : Int) (s0 : Int) : Option (World × Int) :=
  if (w 16 18) = 5 then (f_Re_atom_53 w x1 x2 x3 x4 x5 s0) else (if x2 = 0 then (f_Re_atom_57 w x1 x2 x3 x4 x5 s0) else (bnd (f_Re_atomsOf w 18) fun v7 => if v7 = 3 then (f_Re_atom_53 w x1 x2 x3 x4 x5 s0) else (f_Re_atom_57 w x1 x2 x3 x4 x5 s0)))
noncomputable def f_Re_atom_25 (w : World) (x1 : Int) (x2 : Int) (x3 : Int) (x4 : Int) (x5 : Int) : Option (World × Int) :=
  f_Re_atom_26 w x1 x2 x3 x4 x5 0
noncomputable def f_Re_atom (w : World) (x1 : Int) (x2 : Int) (x3 : Int) (x4 : Int) (x5 : Int) : Option (World × Int) :=
  bnd (f_Re_isRelation w x1) fun v2 => if v2 = 0 then (f_Re_atom_25 w x1 x2 x3 x4 x5) else (bnd (f_Re_areTerms w x1 x3 x4 x5) fun v7 => if v7 = 0 then (f_Re_atom_25 w x1 x2 x3 x4 x5) else (f_Re_atom_26 w x1 x2 x3 x4 x5 1))
noncomputable def f_Re_isAnyTerm (x0 : Int) : Option Int :=
  bnd (f_Re_in x0 (-8) 127) fun v2 => gd (v2 = 0 ∨ v2 = 1) (some v2)
noncomputable def f_Re_compare_60 (w : World) (x1 : Int) (x2 : Int) (x3 : Int) (s1 : Int) : Option (World × Int) :=
  bnd (f_Re_refused w s1) fun v2 => if v2.2 = 0 then (bnd (f_Re_put v2.1 2 x1 x2 x3 0) fun v7 => some (v7.1, v7.2)) else (some (v2.1, 0))
noncomputable def f_Re_compare_19 (w : World) (x1 : Int) (x2 : Int) (x3 : Int) (s0 : Int) : Option (World × Int) :=
  bnd (f_Re_in x1 0 3) fun v2 => if v2 = 0 then (f_Re_compare_60 w x1 x2 x3 1) else (if s0 = 0 then (f_Re_compare_60 w x1 x2 x3 2) else (if (w 16 18) = 5 then (f_Re_compare_60 w x1 x2 x3 3) else (f_Re_compare_60 w x1 x2 x3 0)))
noncomputable def f_Re_compare_18 (w : World) (x1 : Int) (x2 : Int) (x3 : Int) : Option (World × Int) :=
  f_Re_compare_19 w x1 x2 x3 0
noncomputable def f_Re_compare (w : World) (x1 : Int) (x2 : Int) (x3 : Int) : Option (World × Int) :=
  bnd (f_Re_isAnyTerm x2) fun v2 => if v2 = 0 then (f_Re_compare_18 w x1 x2 x3) else (bnd (f_Re_isAnyTerm x3) fun v7 => if v7 = 0 then (f_Re_compare_18 w x1 x2 x3) else (f_Re_compare_19 w x1 x2 x3 1))
noncomputable def f_Re_add_54 (w : World) (x1 : Int) (x2 : Int) (x3 : Int) (s1 : Int) : Option (World × Int) :=
  bnd (f_Re_refused w s1) fun v2 => if v2.2 = 0 then (bnd (f_Re_put v2.1 3 0 x1 x2 x3) fun v7 => some (v7.1, v7.2)) else (some (v2.1, 0))
noncomputable def f_Re_add_26 (w : World) (x1 : Int) (x2 : Int) (x3 : Int) (s0 : Int) : Option (World × Int) :=
  if s0 = 0 then (f_Re_add_54 w x1 x2 x3 1) else (if (w 16 18) = 5 then (f_Re_add_54 w x1 x2 x3 2) else (f_Re_add_54 w x1 x2 x3 0))
noncomputable def f_Re_add_25 (w : World) (x1 : Int) (x2 : Int) (x3 : Int) : Option (World × Int) :=
  f_Re_add_26 w x1 x2 x3 0
noncomputable def f_Re_add (w : World) (x1 : Int) (x2 : Int) (x3 : Int) : Option (World × Int) :=
  bnd (f_Re_isAnyTerm x1) fun v2 => if v2 = 0 then (f_Re_add_25 w x1 x2 x3) else (bnd (f_Re_isAnyTerm x2) fun v7 => if v7 = 0 then (f_Re_add_25 w x1 x2 x3) else (bnd (f_Re_isAnyTerm x3) fun v12 => if v12 = 0 then (f_Re_add_25 w x1 x2 x3) else (f_Re_add_26 w x1 x2 x3 1)))
noncomputable def f_Re_clear (w : World) : Option (World × Int) :=
  bl (w 16 18) fun n2 => bl (up w 16 18 0) fun w3 => bl (up w3 14 18 (-1)) fun w4 => bnd (f_Re_fine w4 n2) fun v6 => some (v6.1, v6.2)
noncomputable def f_Re_width (w : World) (x1 : Int) : Option Int :=
  gd (0 ≤ x1 ∧ x1 < 95) (if (w 17 x1.toNat) = 2 then (some 2) else (gd (0 ≤ x1 ∧ x1 < 95) (if (w 17 x1.toNat) = 3 then (some 3) else (gd (0 ≤ x1 ∧ x1 < 95) (gd (0 ≤ w 18 x1.toNat ∧ w 18 x1.toNat < 10) (some (w 3 (w 18 x1.toNat).toNat)))))))
noncomputable def f_Re_isSafe_228 (w : World) (x1 : Int) (x2 : Int) (x3 : Int) (x5 : Int) (s0 : Int) : Option ((Int × Int) ⊕ Int) :=
  bl (wr (x5 + 1)) fun n1 => some (Sum.inl (s0, n1))
noncomputable def f_Re_isSafe_227 (w : World) (x1 : Int) (x2 : Int) (x3 : Int) (x5 : Int) : Option ((Int × Int) ⊕ Int) :=
  f_Re_isSafe_228 w x1 x2 x3 x5 0
noncomputable def f_Re_isSafe_223 (w : World) (x1 : Int) (x2 : Int) (x3 : Int) (x5 : Int) : Option ((Int × Int) ⊕ Int) :=
  f_Re_isSafe_228 w x1 x2 x3 x5 1
noncomputable def f_Re_isSafe_168B (w : World) (x1 : Int) (x2 : Int) (x3 : Int) (x4 : Int) (x5 : Int) : Option ((Int × Int) ⊕ Int) :=
  if x2 = 0 then (gd (x4 = 0 ∨ x4 = 1) (some (Sum.inr x4))) else (gd (0 ≤ x1 ∧ x1 < 19) (gd (0 ≤ w 14 x1.toNat ∧ w 14 x1.toNat < 10) (if (w 3 (w 14 x1.toNat).toNat) ≤ x5 then (gd (x4 = 0 ∨ x4 = 1) (some (Sum.inr x4))) else (gd (0 ≤ wr ((wr (3 * x1)) + x5) ∧ wr ((wr (3 * x1)) + x5) < 57) (bl (w 15 (wr ((wr (3 * x1)) + x5)).toNat) fun n13 => if x4 = 0 then (f_Re_isSafe_227 w x1 x2 x3 x5) else (if 0 ≤ n13 then (f_Re_isSafe_223 w x1 x2 x3 x5) else (if (iand (ishr x3 (wr ((-1) - n13))) 1) = 1 then (f_Re_isSafe_223 w x1 x2 x3 x5) else (f_Re_isSafe_227 w x1 x2 x3 x5))))))))
noncomputable def f_Re_isSafe_168 (w : World) (x1 : Int) (x2 : Int) (x3 : Int) (x4 : Int) (x5 : Int) : Option Int :=
  lp (fun z : (Int × Int) => f_Re_isSafe_168B w x1 x2 x3 z.1 z.2) (x4, x5)
noncomputable def f_Re_isSafe_145 (w : World) (x1 : Int) (x2 : Int) (x3 : Int) (x4 : Int) (x5 : Int) (x7 : Int) (s0 : Int) (s1 : Int) : Option ((Int × Int × Int) ⊕ ((Int × Int × Int) ⊕ Int)) :=
  bl (ior s0 s1) fun n1 => bl (wr (x7 + 1)) fun n2 => some (Sum.inl (x4, n1, n2))
noncomputable def f_Re_isSafe_144 (w : World) (x1 : Int) (x2 : Int) (x3 : Int) (x4 : Int) (x5 : Int) (x7 : Int) (s0 : Int) : Option ((Int × Int × Int) ⊕ ((Int × Int × Int) ⊕ Int)) :=
  f_Re_isSafe_145 w x1 x2 x3 x4 x5 x7 s0 0
noncomputable def f_Re_isSafe_121 (w : World) (x1 : Int) (x2 : Int) (x3 : Int) (x5 : Int) (x6 : Int) (x7 : Int) (x8 : Int) (x9 : Int) (s0 : Int) : Option ((Int × Int × Int) ⊕ ((Int × Int × Int) ⊕ Int)) :=
  if 0 ≤ x8 then (f_Re_isSafe_144 w x1 x2 x3 s0 x5 x7 x6) else (if x9 = 0 then (f_Re_isSafe_144 w x1 x2 x3 s0 x5 x7 x6) else (f_Re_isSafe_145 w x1 x2 x3 s0 x5 x7 x6 (ishl 1 (wr ((-1) - x8)))))
noncomputable def f_Re_isSafe_120 (w : World) (x1 : Int) (x2 : Int) (x3 : Int) (x5 : Int) (x6 : Int) (x7 : Int) (x8 : Int) (x9 : Int) : Option ((Int × Int × Int) ⊕ ((Int × Int × Int) ⊕ Int)) :=
  f_Re_isSafe_121 w x1 x2 x3 x5 x6 x7 x8 x9 0
noncomputable def f_Re_isSafe_116 (w : World) (x1 : Int) (x2 : Int) (x3 : Int) (x5 : Int) (x6 : Int) (x7 : Int) (x8 : Int) (x9 : Int) : Option ((Int × Int × Int) ⊕ ((Int × Int × Int) ⊕ Int)) :=
  f_Re_isSafe_121 w x1 x2 x3 x5 x6 x7 x8 x9 1
noncomputable def f_Re_isSafe_87 (w : World) (x1 : Int) (x2 : Int) (x3 : Int) (x4 : Int) (x5 : Int) (x6 : Int) (x7 : Int) (x8 : Int) (s0 : Int) : Option ((Int × Int × Int) ⊕ ((Int × Int × Int) ⊕ Int)) :=
  if x4 = 0 then (f_Re_isSafe_120 w x1 x2 x3 x5 x6 x7 x8 s0) else (if 0 ≤ x8 then (f_Re_isSafe_116 w x1 x2 x3 x5 x6 x7 x8 s0) else (if s0 = 0 then (if (iand (ishr x3 (wr ((-1) - x8))) 1) = 1 then (f_Re_isSafe_116 w x1 x2 x3 x5 x6 x7 x8 s0) else (f_Re_isSafe_120 w x1 x2 x3 x5 x6 x7 x8 s0)) else (f_Re_isSafe_116 w x1 x2 x3 x5 x6 x7 x8 s0)))
noncomputable def f_Re_isSafe_82 (w : World) (x1 : Int) (x2 : Int) (x3 : Int) (x4 : Int) (x5 : Int) (x6 : Int) (x7 : Int) (x8 : Int) : Option ((Int × Int × Int) ⊕ ((Int × Int × Int) ⊕ Int)) :=
  f_Re_isSafe_87 w x1 x2 x3 x4 x5 x6 x7 x8 1
noncomputable def f_Re_isSafe_86 (w : World) (x1 : Int) (x2 : Int) (x3 : Int) (x4 : Int) (x5 : Int) (x6 : Int) (x7 : Int) (x8 : Int) : Option ((Int × Int × Int) ⊕ ((Int × Int × Int) ⊕ Int)) :=
  f_Re_isSafe_87 w x1 x2 x3 x4 x5 x6 x7 x8 0
noncomputable def f_Re_isSafe_31B (w : World) (x1 : Int) (x2 : Int) (x3 : Int) (x4 : Int) (x5 : Int) (x6 : Int) (x7 : Int) : Option ((Int × Int × Int) ⊕ ((Int × Int × Int) ⊕ Int)) :=
  bnd (f_Re_width w x5) fun v2 => if v2 ≤ x7 then (bl (ior x3 x6) fun n6 => bl (wr (x5 + 1)) fun n7 => some (Sum.inr (Sum.inl (n6, x4, n7)))) else (gd (0 ≤ wr ((wr (3 * x5)) + x7) ∧ wr ((wr (3 * x5)) + x7) < 285) (bl (w 19 (wr ((wr (3 * x5)) + x7)).toNat) fun n10 => gd (0 ≤ x5 ∧ x5 < 95) (if (w 17 x5.toNat) = 0 then (f_Re_isSafe_82 w x1 x2 x3 x4 x5 x6 x7 n10) else (gd (0 ≤ x5 ∧ x5 < 95) (if (w 17 x5.toNat) = 3 then (if x7 = 0 then (f_Re_isSafe_82 w x1 x2 x3 x4 x5 x6 x7 n10) else (f_Re_isSafe_86 w x1 x2 x3 x4 x5 x6 x7 n10)) else (f_Re_isSafe_86 w x1 x2 x3 x4 x5 x6 x7 n10))))))
noncomputable def f_Re_isSafe_31 (w : World) (x1 : Int) (x2 : Int) (x3 : Int) (x4 : Int) (x5 : Int) (x6 : Int) (x7 : Int) : Option ((Int × Int × Int) ⊕ Int) :=
  lp (fun z : (Int × Int × Int) => f_Re_isSafe_31B w x1 x2 x3 z.1 x5 z.2.1 z.2.2) (x4, x6, x7)
noncomputable def f_Re_isSafe_10B (w : World) (x1 : Int) (x2 : Int) (x3 : Int) (x4 : Int) (x5 : Int) : Option ((Int × Int × Int) ⊕ Int) :=
  gd (0 ≤ x1 ∧ x1 < 19) (if (wr ((wr (5 * x1)) + (w 16 x1.toNat))) ≤ x5 then (bnd (f_Re_isSafe_168 w x1 x2 x3 x4 0) fun y5 => some (Sum.inr y5)) else (f_Re_isSafe_31 w x1 x2 x3 x4 x5 0 0))
noncomputable def f_Re_isSafe_10 (w : World) (x1 : Int) (x2 : Int) (x3 : Int) (x4 : Int) (x5 : Int) : Option Int :=
  lp (fun z : (Int × Int × Int) => f_Re_isSafe_10B w x1 x2 z.1 z.2.1 z.2.2) (x3, x4, x5)
noncomputable def f_Re_isSafe (w : World) (x1 : Int) (x2 : Int) : Option Int :=
  bl (wr (5 * x1)) fun n1 => f_Re_isSafe_10 w x1 x2 0 1 n1
noncomputable def f_Re_copyDraft_105B (w : World) (x1 : Int) (x2 : Int) (x3 : Int) : Option ((World × Int) ⊕ ((World × Int) ⊕ World)) :=
  if 3 ≤ x3 then (bl (wr (x2 + 1)) fun n3 => some (Sum.inr (Sum.inl (w, n3)))) else (gd (0 ≤ wr ((wr (3 * (wr (90 + x2)))) + x3) ∧ wr ((wr (3 * (wr (90 + x2)))) + x3) < 285) (gd (0 ≤ wr ((wr (3 * (wr ((wr (5 * x1)) + x2)))) + x3) ∧ wr ((wr (3 * (wr ((wr (5 * x1)) + x2)))) + x3) < 285) (bl (up w 19 (wr ((wr (3 * (wr ((wr (5 * x1)) + x2)))) + x3)).toNat (w 19 (wr ((wr (3 * (wr (90 + x2)))) + x3)).toNat)) fun w7 => bl (wr (x3 + 1)) fun n8 => some (Sum.inl (w7, n8)))))
noncomputable def f_Re_copyDraft_105 (w : World) (x1 : Int) (x2 : Int) (x3 : Int) : Option ((World × Int) ⊕ World) :=
  lp (fun z : (World × Int) => f_Re_copyDraft_105B z.1 x1 x2 z.2) (w, x3)
noncomputable def f_Re_copyDraft_60B (w : World) (x1 : Int) (x2 : Int) : Option ((World × Int) ⊕ World) :=
  if 5 ≤ x2 then (some (Sum.inr w)) else (gd (0 ≤ wr (90 + x2) ∧ wr (90 + x2) < 95) (gd (0 ≤ wr ((wr (5 * x1)) + x2) ∧ wr ((wr (5 * x1)) + x2) < 95) (bl (up w 17 (wr ((wr (5 * x1)) + x2)).toNat (w 17 (wr (90 + x2)).toNat)) fun w6 => gd (0 ≤ wr (90 + x2) ∧ wr (90 + x2) < 95) (gd (0 ≤ wr ((wr (5 * x1)) + x2) ∧ wr ((wr (5 * x1)) + x2) < 95) (bl (up w6 18 (wr ((wr (5 * x1)) + x2)).toNat (w6 18 (wr (90 + x2)).toNat)) fun w10 => f_Re_copyDraft_105 w10 x1 x2 0)))))
noncomputable def f_Re_copyDraft_60 (w : World) (x1 : Int) (x2 : Int) : Option World :=
  lp (fun z : (World × Int) => f_Re_copyDraft_60B z.1 x1 z.2) (w, x2)
noncomputable def f_Re_copyDraft_28B (w : World) (x1 : Int) (x2 : Int) : Option ((World × Int) ⊕ World) :=
  if 3 ≤ x2 then (bnd (f_Re_copyDraft_60 w x1 0) fun y3 => some (Sum.inr y3)) else (gd (0 ≤ wr (54 + x2) ∧ wr (54 + x2) < 57) (gd (0 ≤ wr ((wr (3 * x1)) + x2) ∧ wr ((wr (3 * x1)) + x2) < 57) (bl (up w 15 (wr ((wr (3 * x1)) + x2)).toNat (w 15 (wr (54 + x2)).toNat)) fun w7 => bl (wr (x2 + 1)) fun n8 => some (Sum.inl (w7, n8)))))
noncomputable def f_Re_copyDraft_28 (w : World) (x1 : Int) (x2 : Int) : Option World :=
  lp (fun z : (World × Int) => f_Re_copyDraft_28B z.1 x1 z.2) (w, x2)
noncomputable def f_Re_copyDraft (w : World) (x1 : Int) : Option World :=
  gd (0 ≤ x1 ∧ x1 < 19) (bl (up w 14 x1.toNat (w 14 18)) fun w3 => gd (0 ≤ x1 ∧ x1 < 19) (bl (up w3 16 x1.toNat (w3 16 18)) fun w6 => f_Re_copyDraft_28 w6 x1 0))
noncomputable def f_Re_emptyDraft (w : World) : Option World :=
  bl (up w 16 18 0) fun w1 => bl (up w1 14 18 (-1)) fun w2 => some w2
noncomputable def f_Re_times_106 (w : World) (x1 : Int) (x2 : Int) (x4 : Int) (x5 : Int) (s0 : Int) (s1 : Int) : Option ((Int × Int) ⊕ ((Int × Int) ⊕ Int)) :=
  bl (wr (s0 + s1)) fun n1 => bl (wr (x5 + 1)) fun n2 => some (Sum.inl (n1, n2))
noncomputable def f_Re_times_73B (w : World) (x1 : Int) (x2 : Int) (x3 : Int) (x4 : Int) (x5 : Int) : Option ((Int × Int) ⊕ ((Int × Int) ⊕ Int)) :=
  bnd (f_Re_width w x4) fun v2 => if v2 ≤ x5 then (bl (wr (x4 + 1)) fun n6 => some (Sum.inr (Sum.inl (x3, n6)))) else (gd (0 ≤ wr ((wr (3 * x4)) + x5) ∧ wr ((wr (3 * x4)) + x5) < 285) (if (w 19 (wr ((wr (3 * x4)) + x5)).toNat) = x2 then (f_Re_times_106 w x1 x2 x4 x5 x3 1) else (f_Re_times_106 w x1 x2 x4 x5 x3 0)))
noncomputable def f_Re_times_73 (w : World) (x1 : Int) (x2 : Int) (x3 : Int) (x4 : Int) (x5 : Int) : Option ((Int × Int) ⊕ Int) :=
  lp (fun z : (Int × Int) => f_Re_times_73B w x1 x2 z.1 x4 z.2) (x3, x5)
noncomputable def f_Re_times_55B (w : World) (x1 : Int) (x2 : Int) (x3 : Int) (x4 : Int) : Option ((Int × Int) ⊕ Int) :=
  gd (0 ≤ x1 ∧ x1 < 19) (if (wr ((wr (5 * x1)) + (w 16 x1.toNat))) ≤ x4 then (some (Sum.inr x3)) else (f_Re_times_73 w x1 x2 x3 x4 0))
noncomputable def f_Re_times_55 (w : World) (x1 : Int) (x2 : Int) (x3 : Int) (x4 : Int) : Option Int :=
  lp (fun z : (Int × Int) => f_Re_times_55B w x1 x2 z.1 z.2) (x3, x4)
noncomputable def f_Re_times_42 (w : World) (x1 : Int) (x2 : Int) (x4 : Int) (s0 : Int) (s1 : Int) : Option ((Int × Int) ⊕ Int) :=
  bl (wr (s0 + s1)) fun n1 => bl (wr (x4 + 1)) fun n2 => some (Sum.inl (n1, n2))
noncomputable def f_Re_times_5B (w : World) (x1 : Int) (x2 : Int) (x3 : Int) (x4 : Int) : Option ((Int × Int) ⊕ Int) :=
  gd (0 ≤ x1 ∧ x1 < 19) (gd (0 ≤ w 14 x1.toNat ∧ w 14 x1.toNat < 10) (if (w 3 (w 14 x1.toNat).toNat) ≤ x4 then (bl (wr (5 * x1)) fun n7 => bnd (f_Re_times_55 w x1 x2 x3 n7) fun y8 => some (Sum.inr y8)) else (gd (0 ≤ wr ((wr (3 * x1)) + x4) ∧ wr ((wr (3 * x1)) + x4) < 57) (if (w 15 (wr ((wr (3 * x1)) + x4)).toNat) = x2 then (f_Re_times_42 w x1 x2 x4 x3 1) else (f_Re_times_42 w x1 x2 x4 x3 0)))))
noncomputable def f_Re_times_5 (w : World) (x1 : Int) (x2 : Int) (x3 : Int) (x4 : Int) : Option Int :=
  lp (fun z : (Int × Int) => f_Re_times_5B w x1 x2 z.1 z.2) (x3, x4)
noncomputable def f_Re_times (w : World) (x1 : Int) (x2 : Int) : Option Int :=
  f_Re_times_5 w x1 x2 0 0
noncomputable def f_Re_lastOfHead (w : World) (x1 : Int) : Option Int :=
  gd (0 ≤ x1 ∧ x1 < 19) (gd (0 ≤ w 14 x1.toNat ∧ w 14 x1.toNat < 10) (gd (0 ≤ wr ((wr ((wr (3 * x1)) + (w 3 (w 14 x1.toNat).toNat))) - 1) ∧ wr ((wr ((wr (3 * x1)) + (w 3 (w 14 x1.toNat).toNat))) - 1) < 57) (some (w 15 (wr ((wr ((wr (3 * x1)) + (w 3 (w 14 x1.toNat).toNat))) - 1)).toNat))))
noncomputable def f_Re_grows_246 (w : World) (x1 : Int) (x3 : Int) (x4 : Int) (x5 : Int) (x6 : Int) (x8 : Int) (s0 : Int) : Option ((Int × Int) ⊕ Int) :=
  bl (wr (x8 + 1)) fun n1 => some (Sum.inl (s0, n1))
noncomputable def f_Re_grows_241 (w : World) (x1 : Int) (x3 : Int) (x4 : Int) (x5 : Int) (x6 : Int) (x8 : Int) : Option ((Int × Int) ⊕ Int) :=
  f_Re_grows_246 w x1 x3 x4 x5 x6 x8 1
noncomputable def f_Re_grows_245 (w : World) (x1 : Int) (x3 : Int) (x4 : Int) (x5 : Int) (x6 : Int) (x8 : Int) : Option ((Int × Int) ⊕ Int) :=
  f_Re_grows_246 w x1 x3 x4 x5 x6 x8 0
noncomputable def f_Re_grows_187 (w : World) (x1 : Int) (x3 : Int) (x4 : Int) (x5 : Int) (x6 : Int) (x7 : Int) (x8 : Int) (x9 : Int) (s0 : Int) : Option ((Int × Int) ⊕ Int) :=
  if x7 = 0 then (if x5 = 2 then (if s0 = 0 then (f_Re_grows_245 w x1 x3 x4 x5 x6 x8) else (if x3 = 3 then (f_Re_grows_245 w x1 x3 x4 x5 x6 x8) else (if 0 ≤ x9 then (f_Re_grows_245 w x1 x3 x4 x5 x6 x8) else (if x6 = 0 then (f_Re_grows_245 w x1 x3 x4 x5 x6 x8) else (bnd (f_Re_lastOfHead w x1) fun v14 => if v14 = x9 then (bnd (f_Re_times w x1 x9) fun v19 => if v19 = 2 then (f_Re_grows_241 w x1 x3 x4 x5 x6 x8) else (f_Re_grows_245 w x1 x3 x4 x5 x6 x8)) else (f_Re_grows_245 w x1 x3 x4 x5 x6 x8)))))) else (f_Re_grows_245 w x1 x3 x4 x5 x6 x8)) else (f_Re_grows_241 w x1 x3 x4 x5 x6 x8)
noncomputable def f_Re_grows_186 (w : World) (x1 : Int) (x3 : Int) (x4 : Int) (x5 : Int) (x6 : Int) (x7 : Int) (x8 : Int) (x9 : Int) : Option ((Int × Int) ⊕ Int) :=
  f_Re_grows_187 w x1 x3 x4 x5 x6 x7 x8 x9 0
noncomputable def f_Re_grows_182 (w : World) (x1 : Int) (x3 : Int) (x4 : Int) (x5 : Int) (x6 : Int) (x7 : Int) (x8 : Int) (x9 : Int) : Option ((Int × Int) ⊕ Int) :=
  f_Re_grows_187 w x1 x3 x4 x5 x6 x7 x8 x9 1
noncomputable def f_Re_grows_113B (w : World) (x1 : Int) (x3 : Int) (x4 : Int) (x5 : Int) (x6 : Int) (x7 : Int) (x8 : Int) : Option ((Int × Int) ⊕ Int) :=
  gd (0 ≤ x1 ∧ x1 < 19) (if (wr ((wr (5 * x1)) + (w 16 x1.toNat))) ≤ x8 then (gd (x7 = 0 ∨ x7 = 1) (some (Sum.inr x7))) else (gd (0 ≤ wr (3 * x8) ∧ wr (3 * x8) < 285) (bl (w 19 (wr (3 * x8)).toNat) fun n8 => gd (0 ≤ x8 ∧ x8 < 95) (if (w 17 x8.toNat) = 3 then (gd (0 ≤ wr ((wr (3 * x8)) + 1) ∧ wr ((wr (3 * x8)) + 1) < 285) (if (w 19 (wr ((wr (3 * x8)) + 1)).toNat) = x4 then (f_Re_grows_182 w x1 x3 x4 x5 x6 x7 x8 n8) else (gd (0 ≤ wr ((wr (3 * x8)) + 2) ∧ wr ((wr (3 * x8)) + 2) < 285) (if (w 19 (wr ((wr (3 * x8)) + 2)).toNat) = x4 then (f_Re_grows_182 w x1 x3 x4 x5 x6 x7 x8 n8) else (f_Re_grows_186 w x1 x3 x4 x5 x6 x7 x8 n8))))) else (f_Re_grows_186 w x1 x3 x4 x5 x6 x7 x8 n8)))))
noncomputable def f_Re_grows_113 (w : World) (x1 : Int) (x3 : Int) (x4 : Int) (x5 : Int) (x6 : Int) (x7 : Int) (x8 : Int) : Option Int :=
  lp (fun z : (Int × Int) => f_Re_grows_113B w x1 x3 x4 x5 x6 z.1 z.2) (x7, x8)
noncomputable def f_Re_grows_106 (w : World) (x1 : Int) (x3 : Int) (x4 : Int) (x5 : Int) (x6 : Int) (s0 : Int) : Option Int :=
  bl (wr (5 * x1)) fun n1 => f_Re_grows_113 w x1 x3 x4 x5 x6 s0 n1
noncomputable def f_Re_grows_101 (w : World) (x1 : Int) (x3 : Int) (x4 : Int) (x5 : Int) (x6 : Int) : Option Int :=
  f_Re_grows_106 w x1 x3 x4 x5 x6 1
noncomputable def f_Re_grows_105 (w : World) (x1 : Int) (x3 : Int) (x4 : Int) (x5 : Int) (x6 : Int) : Option Int :=
  f_Re_grows_106 w x1 x3 x4 x5 x6 0
noncomputable def f_Re_grows_72 (w : World) (x1 : Int) (x3 : Int) (x4 : Int) (x5 : Int) (s0 : Int) : Option Int :=
  if x5 = 1 then (f_Re_grows_101 w x1 x3 x4 x5 s0) else (if x5 = 2 then (if s0 = 0 then (f_Re_grows_105 w x1 x3 x4 x5 s0) else (bnd (f_Re_lastOfHead w x1) fun v8 => if v8 = x4 then (f_Re_grows_101 w x1 x3 x4 x5 s0) else (f_Re_grows_105 w x1 x3 x4 x5 s0))) else (f_Re_grows_105 w x1 x3 x4 x5 s0))
noncomputable def f_Re_grows (w : World) (x1 : Int) (x2 : Int) : Option Int :=
  gd (0 ≤ x2 ∧ x2 < 95) (gd (0 ≤ w 18 x2.toNat ∧ w 18 x2.toNat < 10) (bl (w 4 (w 18 x2.toNat).toNat) fun n5 => gd (0 ≤ x2 ∧ x2 < 95) (gd (0 ≤ w 18 x2.toNat ∧ w 18 x2.toNat < 10) (gd (0 ≤ wr ((wr ((wr (3 * x2)) + (w 3 (w 18 x2.toNat).toNat))) - 1) ∧ wr ((wr ((wr (3 * x2)) + (w 3 (w 18 x2.toNat).toNat))) - 1) < 285) (bl (w 19 (wr ((wr ((wr (3 * x2)) + (w 3 (w 18 x2.toNat).toNat))) - 1)).toNat) fun n12 => if n12 < 0 then (bnd (f_Re_times w x1 n12) fun v16 => gd (0 ≤ x1 ∧ x1 < 19) (gd (0 ≤ w 14 x1.toNat ∧ w 14 x1.toNat < 10) (if (w 4 (w 14 x1.toNat).toNat) = n5 then (f_Re_grows_72 w x1 n5 n12 v16 1) else (f_Re_grows_72 w x1 n5 n12 v16 0)))) else (some 0))))))
noncomputable def f_Re_layer_224 (w : World) (x1 : Int) (x2 : Int) (x3 : Int) : Option ((World × Int × Int × Int) ⊕ ((World × Int × Int) ⊕ (World × Int))) :=
  bl (wr (x3 + 1)) fun n1 => some (Sum.inl (w, x1, x2, n1))
noncomputable def f_Re_layer_218 (w : World) (x1 : Int) (x2 : Int) (x3 : Int) (x4 : Int) : Option ((World × Int × Int × Int) ⊕ ((World × Int × Int × Int) ⊕ ((World × Int × Int) ⊕ (World × Int)))) :=
  bl (wr (x4 + 1)) fun n1 => some (Sum.inl (w, x1, x2, n1))
noncomputable def f_Re_layer_217 (w : World) (x1 : Int) (x3 : Int) (x4 : Int) (s0 : Int) : Option ((World × Int × Int × Int) ⊕ ((World × Int × Int × Int) ⊕ ((World × Int × Int) ⊕ (World × Int)))) :=
  f_Re_layer_218 w x1 s0 x3 x4
noncomputable def f_Re_layer_172 (w : World) (x1 : Int) (x2 : Int) (x3 : Int) (x4 : Int) (s0 : Int) : Option ((World × Int × Int × Int) ⊕ ((World × Int × Int × Int) ⊕ ((World × Int × Int) ⊕ (World × Int)))) :=
  gd (0 ≤ x3 ∧ x3 < 19) (gd (0 ≤ w 14 x3.toNat ∧ w 14 x3.toNat < 10) (if s0 ≤ (w 6 (w 14 x3.toNat).toNat) then (f_Re_layer_218 w x1 x2 x3 x4) else (gd (0 ≤ x3 ∧ x3 < 19) (gd (0 ≤ w 14 x3.toNat ∧ w 14 x3.toNat < 10) (bl (up w 6 (w 14 x3.toNat).toNat s0) fun w10 => if 10 ≤ s0 then (f_Re_layer_217 w10 1 x3 x4 0) else (f_Re_layer_217 w10 1 x3 x4 1))))))
noncomputable def f_Re_layer_167 (w : World) (x1 : Int) (x2 : Int) (x3 : Int) (x4 : Int) (s0 : Int) (s1 : Int) : Option ((World × Int × Int × Int) ⊕ ((World × Int × Int × Int) ⊕ ((World × Int × Int) ⊕ (World × Int)))) :=
  f_Re_layer_172 w x1 x2 x3 x4 (wr (s0 + s1))
noncomputable def f_Re_layer_138 (w : World) (x1 : Int) (x2 : Int) (x3 : Int) (x4 : Int) (x5 : Int) (s0 : Int) : Option ((World × Int × Int × Int) ⊕ ((World × Int × Int × Int) ⊕ ((World × Int × Int) ⊕ (World × Int)))) :=
  if x5 = 0 then (f_Re_layer_172 w x1 x2 x3 x4 0) else (gd (0 ≤ x4 ∧ x4 < 95) (gd (0 ≤ w 18 x4.toNat ∧ w 18 x4.toNat < 10) (if s0 = 0 then (f_Re_layer_167 w x1 x2 x3 x4 (w 6 (w 18 x4.toNat).toNat) 0) else (f_Re_layer_167 w x1 x2 x3 x4 (w 6 (w 18 x4.toNat).toNat) 1))))
noncomputable def f_Re_layer_137 (w : World) (x1 : Int) (x2 : Int) (x3 : Int) (x4 : Int) (x5 : Int) : Option ((World × Int × Int × Int) ⊕ ((World × Int × Int × Int) ⊕ ((World × Int × Int) ⊕ (World × Int)))) :=
  f_Re_layer_138 w x1 x2 x3 x4 x5 0
noncomputable def f_Re_layer_133 (w : World) (x1 : Int) (x2 : Int) (x3 : Int) (x4 : Int) (x5 : Int) : Option ((World × Int × Int × Int) ⊕ ((World × Int × Int × Int) ⊕ ((World × Int × Int) ⊕ (World × Int)))) :=
  f_Re_layer_138 w x1 x2 x3 x4 x5 1
noncomputable def f_Re_layer_90 (w : World) (x1 : Int) (x2 : Int) (x3 : Int) (x4 : Int) (s0 : Int) : Option ((World × Int × Int × Int) ⊕ ((World × Int × Int × Int) ⊕ ((World × Int × Int) ⊕ (World × Int)))) :=
  if s0 = 0 then (f_Re_layer_137 w x1 x2 x3 x4 s0) else (gd (0 ≤ x4 ∧ x4 < 95) (if (w 17 x4.toNat) = 1 then (f_Re_layer_133 w x1 x2 x3 x4 s0) else (gd (0 ≤ x4 ∧ x4 < 95) (gd (0 ≤ w 18 x4.toNat ∧ w 18 x4.toNat < 10) (if (w 4 (w 18 x4.toNat).toNat) = 0 then (f_Re_layer_137 w x1 x2 x3 x4 s0) else (bnd (f_Re_grows w x3 x4) fun v14 => if v14 = 0 then (f_Re_layer_133 w x1 x2 x3 x4 s0) else (f_Re_layer_137 w x1 x2 x3 x4 s0)))))))
noncomputable def f_Re_layer_50B (w : World) (x1 : Int) (x2 : Int) (x3 : Int) (x4 : Int) : Option ((World × Int × Int × Int) ⊕ ((World × Int × Int × Int) ⊕ ((World × Int × Int) ⊕ (World × Int)))) :=
  gd (0 ≤ x3 ∧ x3 < 12) (if (w 13 x3.toNat) = 0 then (gd (0 ≤ x3 ∧ x3 < 19) (if (wr ((wr (5 * x3)) + (w 16 x3.toNat))) ≤ x4 then (bnd (f_Re_layer_224 w x1 x2 x3) fun y10 => some (Sum.inr y10)) else (gd (0 ≤ x4 ∧ x4 < 95) (if 1 < (w 17 x4.toNat) then (f_Re_layer_90 w x1 x2 x3 x4 0) else (f_Re_layer_90 w x1 x2 x3 x4 1))))) else (bnd (f_Re_layer_224 w x1 x2 x3) fun y5 => some (Sum.inr y5)))
noncomputable def f_Re_layer_50 (w : World) (x1 : Int) (x2 : Int) (x3 : Int) (x4 : Int) : Option ((World × Int × Int × Int) ⊕ ((World × Int × Int) ⊕ (World × Int))) :=
  lp (fun z : (World × Int × Int × Int) => f_Re_layer_50B z.1 z.2.1 z.2.2.1 x3 z.2.2.2) (w, x1, x2, x4)
noncomputable def f_Re_layer_37B (w : World) (x1 : Int) (x2 : Int) (x3 : Int) : Option ((World × Int × Int × Int) ⊕ ((World × Int × Int) ⊕ (World × Int))) :=
  if (w 1 14) ≤ x3 then (some (Sum.inr (Sum.inl (w, x1, x2)))) else (bl (wr (5 * x3)) fun n4 => f_Re_layer_50 w x1 x2 x3 n4)
noncomputable def f_Re_layer_37 (w : World) (x1 : Int) (x2 : Int) (x3 : Int) : Option ((World × Int × Int) ⊕ (World × Int)) :=
  lp (fun z : (World × Int × Int × Int) => f_Re_layer_37B z.1 z.2.1 z.2.2.1 z.2.2.2) (w, x1, x2, x3)
noncomputable def f_Re_layer_25B (w : World) (x1 : Int) (x2 : Int) : Option ((World × Int × Int) ⊕ (World × Int)) :=
  if x1 = 0 then (gd (x2 = 0 ∨ x2 = 1) (some (Sum.inr (w, x2)))) else (if x2 = 0 then (gd (x2 = 0 ∨ x2 = 1) (some (Sum.inr (w, x2)))) else (f_Re_layer_37 w 0 x2 0))
noncomputable def f_Re_layer_25 (w : World) (x1 : Int) (x2 : Int) : Option (World × Int) :=
  lp (fun z : (World × Int × Int) => f_Re_layer_25B z.1 z.2.1 z.2.2) (w, x1, x2)
noncomputable def f_Re_layer_2B (w : World) (x1 : Int) : Option ((World × Int) ⊕ (World × Int)) :=
  if 10 ≤ x1 then (bnd (f_Re_layer_25 w 1 1) fun y3 => some (Sum.inr y3)) else (gd (0 ≤ x1 ∧ x1 < 10) (bl (up w 6 x1.toNat 0) fun w5 => bl (wr (x1 + 1)) fun n6 => some (Sum.inl (w5, n6))))
noncomputable def f_Re_layer_2 (w : World) (x1 : Int) : Option (World × Int) :=
  lp (fun z : (World × Int) => f_Re_layer_2B z.1 z.2) (w, x1)
noncomputable def f_Re_layer (w : World) : Option (World × Int) :=
  f_Re_layer_2 w 0
noncomputable def f_Re_enter_100 (w : World) : Option (World × Int) :=
  bl (up w 1 14 (wr ((w 1 14) - 1))) fun w2 => bnd (f_Re_layer w2 ) fun v4 => bnd (f_Re_buildAll v4.1 ) fun v7 => bnd (f_Re_refused v7.1 2) fun v10 => some (v10.1, 0)
noncomputable def f_Re_enter_50 (w : World) (s1 : Int) : Option (World × Int) :=
  bnd (f_Re_refused w s1) fun v2 => if v2.2 = 0 then (bnd (f_Re_copyDraft v2.1 (v2.1 1 14)) fun v8 => gd (0 ≤ v8 1 14 ∧ v8 1 14 < 12) (bl (up v8 13 (v8 1 14).toNat 0) fun w12 => bl (up w12 1 14 (wr ((w12 1 14) + 1))) fun w14 => bnd (f_Re_layer w14 ) fun v16 => if v16.2 = 0 then (f_Re_enter_100 v16.1) else (bnd (f_Re_buildAll v16.1 ) fun v21 => if v21.2 = 0 then (f_Re_enter_100 v21.1) else (bnd (f_Re_emptyDraft v21.1 ) fun v26 => some (v26, wr ((v26 1 14) - 1)))))) else (some (v2.1, 0))
noncomputable def f_Re_enter_26 (w : World) (s0 : Int) : Option (World × Int) :=
  if s0 = 0 then (f_Re_enter_50 w 1) else (if (w 1 14) = 12 then (f_Re_enter_50 w 2) else (f_Re_enter_50 w 0))
noncomputable def f_Re_enter_25 (w : World) : Option (World × Int) :=
  f_Re_enter_26 w 0
noncomputable def f_Re_enter (w : World) : Option (World × Int) :=
  if (w 14 18) = (-1) then (f_Re_enter_25 w) else (bnd (f_Re_isSafe w 18 1) fun v5 => if v5 = 0 then (f_Re_enter_25 w) else (f_Re_enter_26 w 1))
noncomputable def f_Re_deny_49 (w : World) (s1 : Int) : Option (World × Int) :=
  bnd (f_Re_refused w s1) fun v2 => if v2.2 = 0 then (bnd (f_Re_copyDraft v2.1 (wr (12 + (v2.1 1 15)))) fun v8 => gd (0 ≤ wr (12 + (v8 1 15)) ∧ wr (12 + (v8 1 15)) < 19) (bl (up v8 14 (wr (12 + (v8 1 15))).toNat (-1)) fun w12 => bl (up w12 1 15 (wr ((w12 1 15) + 1))) fun w14 => bnd (f_Re_emptyDraft w14 ) fun v16 => some (v16, wr ((v16 1 15) - 1)))) else (some (v2.1, 0))
noncomputable def f_Re_deny_25 (w : World) (s0 : Int) : Option (World × Int) :=
  if s0 = 0 then (f_Re_deny_49 w 1) else (if (w 1 15) = 6 then (f_Re_deny_49 w 2) else (f_Re_deny_49 w 0))
noncomputable def f_Re_deny_24 (w : World) : Option (World × Int) :=
  f_Re_deny_25 w 0
noncomputable def f_Re_deny (w : World) : Option (World × Int) :=
  if (w 16 18) ≤ 0 then (f_Re_deny_24 w) else (bnd (f_Re_isSafe w 18 0) fun v5 => if v5 = 0 then (f_Re_deny_24 w) else (f_Re_deny_25 w 1))
noncomputable def f_Re_remove_117 (w : World) (x4 : Int) (s0 : Int) (s1 : Int) : Option ((Int × Int) ⊕ (World × Int)) :=
  bl (wr (s0 + s1)) fun n1 => bl (wr (x4 + 1)) fun n2 => some (Sum.inl (n1, n2))
noncomputable def f_Re_remove_92B (w : World) (x3 : Int) (x4 : Int) : Option ((Int × Int) ⊕ (World × Int)) :=
  if (w 1 14) ≤ x4 then (some (Sum.inr (w, x3))) else (gd (0 ≤ x4 ∧ x4 < 12) (if (w 13 x4.toNat) = 0 then (f_Re_remove_117 w x4 x3 1) else (f_Re_remove_117 w x4 x3 0)))
noncomputable def f_Re_remove_92 (w : World) (x3 : Int) (x4 : Int) : Option (World × Int) :=
  lp (fun z : (Int × Int) => f_Re_remove_92B w z.1 z.2) (x3, x4)
noncomputable def f_Re_remove_35 (w : World) (x1 : Int) (s1 : Int) : Option (World × Int) :=
  bnd (f_Re_refused w s1) fun v2 => if v2.2 = 0 then (gd (0 ≤ x1 ∧ x1 < 12) (bl (up v2.1 13 x1.toNat 1) fun w7 => bnd (f_Re_layer w7 ) fun v9 => bnd (f_Re_buildAll v9.1 ) fun v12 => if v12.2 = 0 then (gd (0 ≤ x1 ∧ x1 < 12) (bl (up v12.1 13 x1.toNat 0) fun w17 => bnd (f_Re_layer w17 ) fun v19 => bnd (f_Re_buildAll v19.1 ) fun v22 => bnd (f_Re_refused v22.1 2) fun v25 => some (v25.1, 0))) else (f_Re_remove_92 v12.1 0 0))) else (some (v2.1, 0))
noncomputable def f_Re_remove (w : World) (x1 : Int) : Option (World × Int) :=
  bnd (f_Re_in x1 0 (wr ((w 1 14) - 1))) fun v3 => if v3 = 0 then (f_Re_remove_35 w x1 1) else (gd (0 ≤ x1 ∧ x1 < 12) (if (w 13 x1.toNat) = 0 then (f_Re_remove_35 w x1 0) else (f_Re_remove_35 w x1 2)))
noncomputable def f_Re_give (w : World) (x1 : Int) (x2 : Int) : Option (World × Int) :=
  bnd (f_Re_isBound w x1) fun v2 => if v2 = 0 then (gd (0 ≤ wr ((-1) - x1) ∧ wr ((-1) - x1) < 8) (bl (up w 23 (wr ((-1) - x1)).toNat x2) fun w7 => gd (0 ≤ wr ((-1) - x1) ∧ wr ((-1) - x1) < 8) (bl (up w7 24 (wr ((-1) - x1)).toNat (-1)) fun w9 => some (w9, 1)))) else (bnd (f_Re_valueOf w x1) fun v11 => if v11 = x2 then (some (w, 1)) else (some (w, 0)))
noncomputable def f_Re_hasTuple (w : World) (x1 : Int) (x2 : Int) (x3 : Int) (x4 : Int) (x5 : Int) : Option Int :=
  bnd (f_Re_place w x1 x2 x3 x4 x5) fun v2 => bl (wr (3 * (wr ((wr (50 * x1)) + v2)))) fun n4 => if v2 = (-1) then (some 0) else (gd (0 ≤ n4 ∧ n4 < 750) (if (w 22 n4.toNat) = x3 then (gd (0 ≤ wr (n4 + 1) ∧ wr (n4 + 1) < 750) (if (w 22 (wr (n4 + 1)).toNat) = x4 then (gd (0 ≤ wr (n4 + 2) ∧ wr (n4 + 2) < 750) (if (w 22 (wr (n4 + 2)).toNat) = x5 then (some 1) else (some 0))) else (some 0))) else (some 0)))
noncomputable def f_Re_noRelation_14 (w : World) (s1 : Int) : Option (World × Int) :=
  bnd (f_Re_refused w s1) fun v2 => gd (v2.2 = 0 ∨ v2.2 = 1) (some (v2.1, v2.2))
noncomputable def f_Re_noRelation (w : World) (x1 : Int) : Option (World × Int) :=
  bnd (f_Re_isRelation w x1) fun v2 => if v2 = 0 then (f_Re_noRelation_14 w 1) else (f_Re_noRelation_14 w 0)
noncomputable def f_Re_holds (w : World) (x1 : Int) (x2 : Int) (x3 : Int) (x4 : Int) : Option (World × Int) :=
  bnd (f_Re_noRelation w x1) fun v2 => if v2.2 = 0 then (bnd (f_Re_hasTuple v2.1 (v2.1 1 1) x1 x2 x3 x4) fun v8 => if v8 = 0 then (some (v2.1, 0)) else (some (v2.1, 1))) else (some (v2.1, 0))
noncomputable def f_Re_holdsAt_28 (w : World) (x1 : Int) (x2 : Int) (x3 : Int) (x4 : Int) (x5 : Int) (s1 : Int) : Option (World × Int) :=
  bnd (f_Re_refused w s1) fun v2 => if v2.2 = 0 then (bnd (f_Re_hasTuple v2.1 x5 x1 x2 x3 x4) fun v7 => if v7 = 0 then (some (v2.1, 0)) else (some (v2.1, 1))) else (some (v2.1, 0))
noncomputable def f_Re_holdsAt (w : World) (x1 : Int) (x2 : Int) (x3 : Int) (x4 : Int) (x5 : Int) : Option (World × Int) :=
  bnd (f_Re_isRelation w x1) fun v2 => if v2 = 0 then (f_Re_holdsAt_28 w x1 x2 x3 x4 x5 1) else (bnd (f_Re_in x5 0 3) fun v7 => if v7 = 0 then (f_Re_holdsAt_28 w x1 x2 x3 x4 x5 2) else (f_Re_holdsAt_28 w x1 x2 x3 x4 x5 0))
noncomputable def f_Re_holdsAnew (w : World) (x1 : Int) (x2 : Int) (x3 : Int) (x4 : Int) (x5 : Int) : Option (World × Int) :=
  bnd (f_Re_holdsAt w x1 x2 x3 x4 x5) fun v2 => gd (v2.2 = 0 ∨ v2.2 = 1) (some (v2.1, v2.2))
noncomputable def f_Re_sizeOf_41 (w : World) (x1 : Int) (x3 : Int) (s0 : Int) (s1 : Int) : Option ((Int × Int) ⊕ Int) :=
  bl (wr (s0 + s1)) fun n1 => bl (wr (x3 + 1)) fun n2 => some (Sum.inl (n1, n2))
noncomputable def f_Re_sizeOf_4B (w : World) (x1 : Int) (x2 : Int) (x3 : Int) : Option ((Int × Int) ⊕ Int) :=
  gd (0 ≤ w 1 1 ∧ w 1 1 < 5) (if (w 20 (w 1 1).toNat) ≤ x3 then (some (Sum.inr x2)) else (gd (0 ≤ wr ((wr (50 * (w 1 1))) + x3) ∧ wr ((wr (50 * (w 1 1))) + x3) < 250) (if (w 21 (wr ((wr (50 * (w 1 1))) + x3)).toNat) = x1 then (f_Re_sizeOf_41 w x1 x3 x2 1) else (f_Re_sizeOf_41 w x1 x3 x2 0))))
noncomputable def f_Re_sizeOf_4 (w : World) (x1 : Int) (x2 : Int) (x3 : Int) : Option Int :=
  lp (fun z : (Int × Int) => f_Re_sizeOf_4B w x1 z.1 z.2) (x2, x3)
noncomputable def f_Re_sizeOf (w : World) (x1 : Int) : Option Int :=
  f_Re_sizeOf_4 w x1 0 0
noncomputable def f_Re_size (w : World) (x1 : Int) : Option (World × Int) :=
  bnd (f_Re_noRelation w x1) fun v2 => if v2.2 = 0 then (bnd (f_Re_sizeOf v2.1 x1) fun v7 => some (v2.1, v7)) else (some (v2.1, 0))
noncomputable def f_Re_told (w : World) (x1 : Int) : Option Int :=
  bl (wr (3 * (wr ((wr (50 * (w 1 1))) + x1)))) fun n2 => gd (0 ≤ n2 ∧ n2 < 750) (gd (0 ≤ wr (n2 + 1) ∧ wr (n2 + 1) < 750) (gd (0 ≤ wr (n2 + 2) ∧ wr (n2 + 2) < 750) (some (wr ((wr ((wr (16384 * (w 22 n2.toNat))) + (wr (128 * (w 22 (wr (n2 + 1)).toNat))))) + (w 22 (wr (n2 + 2)).toNat))))))
noncomputable def f_Re_at_173 (w : World) (x1 : Int) (x2 : Int) (x5 : Int) (s0 : Int) : Option ((Int × Int) ⊕ (World × Int)) :=
  bl (wr (x5 + 1)) fun n1 => some (Sum.inl (s0, n1))
noncomputable def f_Re_at_171 (w : World) (x1 : Int) (x2 : Int) (x4 : Int) (x5 : Int) : Option ((Int × Int) ⊕ (World × Int)) :=
  f_Re_at_173 w x1 x2 x5 x4
noncomputable def f_Re_at_128 (w : World) (x1 : Int) (x2 : Int) (x4 : Int) (x5 : Int) (x7 : Int) (s0 : Int) (s1 : Int) : Option ((Int × Int) ⊕ ((Int × Int) ⊕ (World × Int))) :=
  bl (wr (s0 + s1)) fun n1 => bl (wr (x7 + 1)) fun n2 => some (Sum.inl (n1, n2))
noncomputable def f_Re_at_127 (w : World) (x1 : Int) (x2 : Int) (x4 : Int) (x5 : Int) (x7 : Int) (s0 : Int) : Option ((Int × Int) ⊕ ((Int × Int) ⊕ (World × Int))) :=
  f_Re_at_128 w x1 x2 x4 x5 x7 s0 0
noncomputable def f_Re_at_73B (w : World) (x1 : Int) (x2 : Int) (x4 : Int) (x5 : Int) (x6 : Int) (x7 : Int) : Option ((Int × Int) ⊕ ((Int × Int) ⊕ (World × Int))) :=
  gd (0 ≤ w 1 1 ∧ w 1 1 < 5) (if (w 20 (w 1 1).toNat) ≤ x7 then (gd (0 ≤ wr ((wr (50 * (w 1 1))) + x5) ∧ wr ((wr (50 * (w 1 1))) + x5) < 250) (if (w 21 (wr ((wr (50 * (w 1 1))) + x5)).toNat) = x1 then (if x6 = x2 then (bnd (f_Re_told w x5) fun v16 => bnd (f_Re_at_173 w x1 x2 x5 v16) fun y18 => some (Sum.inr y18)) else (bnd (f_Re_at_171 w x1 x2 x4 x5) fun y14 => some (Sum.inr y14))) else (bnd (f_Re_at_171 w x1 x2 x4 x5) fun y11 => some (Sum.inr y11)))) else (gd (0 ≤ wr ((wr (50 * (w 1 1))) + x7) ∧ wr ((wr (50 * (w 1 1))) + x7) < 250) (if (w 21 (wr ((wr (50 * (w 1 1))) + x7)).toNat) = x1 then (bnd (f_Re_told w x7) fun v25 => bnd (f_Re_told w x5) fun v28 => if v28 ≤ v25 then (f_Re_at_127 w x1 x2 x4 x5 x7 x6) else (f_Re_at_128 w x1 x2 x4 x5 x7 x6 1)) else (f_Re_at_127 w x1 x2 x4 x5 x7 x6))))
noncomputable def f_Re_at_73 (w : World) (x1 : Int) (x2 : Int) (x4 : Int) (x5 : Int) (x6 : Int) (x7 : Int) : Option ((Int × Int) ⊕ (World × Int)) :=
  lp (fun z : (Int × Int) => f_Re_at_73B w x1 x2 x4 x5 z.1 z.2) (x6, x7)
noncomputable def f_Re_at_53B (w : World) (x1 : Int) (x2 : Int) (x4 : Int) (x5 : Int) : Option ((Int × Int) ⊕ (World × Int)) :=
  gd (0 ≤ w 1 1 ∧ w 1 1 < 5) (if (w 20 (w 1 1).toNat) ≤ x5 then (some (Sum.inr (w, x4))) else (f_Re_at_73 w x1 x2 x4 x5 0 0))
noncomputable def f_Re_at_53 (w : World) (x1 : Int) (x2 : Int) (x4 : Int) (x5 : Int) : Option (World × Int) :=
  lp (fun z : (Int × Int) => f_Re_at_53B w x1 x2 z.1 z.2) (x4, x5)
noncomputable def f_Re_at_39 (w : World) (x1 : Int) (x2 : Int) (s1 : Int) : Option (World × Int) :=
  bnd (f_Re_refused w s1) fun v2 => if v2.2 = 0 then (f_Re_at_53 v2.1 x1 x2 0 0) else (some (v2.1, 0))
noncomputable def f_Re_at_28 (w : World) (x1 : Int) (x2 : Int) (s0 : Int) : Option (World × Int) :=
  if s0 = 0 then (f_Re_at_39 w x1 x2 1) else (f_Re_at_39 w x1 x2 0)
noncomputable def f_Re_at_27 (w : World) (x1 : Int) (x2 : Int) : Option (World × Int) :=
  f_Re_at_28 w x1 x2 0
noncomputable def f_Re_at (w : World) (x1 : Int) (x2 : Int) : Option (World × Int) :=
  bnd (f_Re_isRelation w x1) fun v2 => if v2 = 0 then (f_Re_at_27 w x1 x2) else (bnd (f_Re_sizeOf w x1) fun v7 => bnd (f_Re_in x2 0 (wr (v7 - 1))) fun v10 => if v10 = 0 then (f_Re_at_27 w x1 x2) else (f_Re_at_28 w x1 x2 1))
noncomputable def f_Re_stratum (w : World) (x1 : Int) : Option (World × Int) :=
  bnd (f_Re_noRelation w x1) fun v2 => if v2.2 = 0 then (gd (0 ≤ x1 ∧ x1 < 10) (some (v2.1, v2.1 6 x1.toNat))) else (some (v2.1, 0))
noncomputable def f_Re_ways_247 (w : World) (x1 : Int) (x5 : Int) (x6 : Int) (x7 : Int) : Option ((World × Int × Int) ⊕ (World × Int)) :=
  bl (wr (x7 + 1)) fun n1 => some (Sum.inl (w, x6, n1))
noncomputable def f_Re_ways_241 (w : World) (x1 : Int) (x5 : Int) (x7 : Int) (s0 : Int) (s1 : Int) : Option ((World × Int) ⊕ ((World × Int × Int) ⊕ (World × Int))) :=
  bl (wr (s0 + s1)) fun n1 => some (Sum.inl (w, n1))
noncomputable def f_Re_ways_158B (w : World) (x1 : Int) (x5 : Int) (x6 : Int) (x7 : Int) : Option ((World × Int) ⊕ ((World × Int × Int) ⊕ (World × Int))) :=
  gd (0 ≤ x7 ∧ x7 < 12) (if (w 13 x7.toNat) = 0 then (gd (0 ≤ x7 ∧ x7 < 19) (if (w 14 x7.toNat) = x1 then (gd (0 ≤ x7 ∧ x7 < 19) (bnd (f_Re_next w x7 (w 16 x7.toNat) (w 1 1)) fun v15 => if v15.2 = 0 then (bnd (f_Re_ways_247 v15.1 x1 x5 x6 x7) fun y19 => some (Sum.inr y19)) else (bnd (f_Re_headValue v15.1 x7 0) fun v22 => bnd (f_Re_headValue v15.1 x7 1) fun v25 => bnd (f_Re_headValue v15.1 x7 2) fun v28 => bnd (f_Re_place v15.1 (v15.1 1 1) x1 v22 v25 v28) fun v31 => if v31 = x5 then (f_Re_ways_241 v15.1 x1 x5 x7 x6 1) else (f_Re_ways_241 v15.1 x1 x5 x7 x6 0)))) else (bnd (f_Re_ways_247 w x1 x5 x6 x7) fun y10 => some (Sum.inr y10)))) else (bnd (f_Re_ways_247 w x1 x5 x6 x7) fun y5 => some (Sum.inr y5)))
noncomputable def f_Re_ways_158 (w : World) (x1 : Int) (x5 : Int) (x6 : Int) (x7 : Int) : Option ((World × Int × Int) ⊕ (World × Int)) :=
  lp (fun z : (World × Int) => f_Re_ways_158B z.1 x1 x5 z.2 x7) (w, x6)
noncomputable def f_Re_ways_145B (w : World) (x1 : Int) (x5 : Int) (x6 : Int) (x7 : Int) : Option ((World × Int × Int) ⊕ (World × Int)) :=
  if (w 1 14) ≤ x7 then (some (Sum.inr (w, x6))) else (bnd (f_Re_begin w ) fun v5 => f_Re_ways_158 v5 x1 x5 x6 x7)
noncomputable def f_Re_ways_145 (w : World) (x1 : Int) (x5 : Int) (x6 : Int) (x7 : Int) : Option (World × Int) :=
  lp (fun z : (World × Int × Int) => f_Re_ways_145B z.1 x1 x5 z.2.1 z.2.2) (w, x6, x7)
noncomputable def f_Re_ways_133 (w : World) (x1 : Int) (x5 : Int) (x7 : Int) (s0 : Int) (s1 : Int) : Option ((Int × Int) ⊕ (World × Int)) :=
  bl (wr (s0 + s1)) fun n1 => bl (wr (x7 + 1)) fun n2 => some (Sum.inl (n1, n2))
noncomputable def f_Re_ways_132 (w : World) (x1 : Int) (x5 : Int) (x7 : Int) (s0 : Int) : Option ((Int × Int) ⊕ (World × Int)) :=
  f_Re_ways_133 w x1 x5 x7 s0 0
noncomputable def f_Re_ways_47B (w : World) (x1 : Int) (x5 : Int) (x6 : Int) (x7 : Int) : Option ((Int × Int) ⊕ (World × Int)) :=
  if (w 1 7) ≤ x7 then (bnd (f_Re_ways_145 w x1 x5 x6 0) fun y4 => some (Sum.inr y4)) else (gd (0 ≤ x7 ∧ x7 < 24) (if (w 7 x7.toNat) = x1 then (bnd (f_Re_holdsIn w x7 (w 1 1) 0) fun v11 => if v11 = 0 then (f_Re_ways_132 w x1 x5 x7 x6) else (gd (0 ≤ wr (3 * x7) ∧ wr (3 * x7) < 72) (gd (0 ≤ wr ((wr (3 * x7)) + 1) ∧ wr ((wr (3 * x7)) + 1) < 72) (gd (0 ≤ wr ((wr (3 * x7)) + 2) ∧ wr ((wr (3 * x7)) + 2) < 72) (bnd (f_Re_place w (w 1 1) x1 (w 8 (wr (3 * x7)).toNat) (w 8 (wr ((wr (3 * x7)) + 1)).toNat) (w 8 (wr ((wr (3 * x7)) + 2)).toNat)) fun v23 => if v23 = x5 then (f_Re_ways_133 w x1 x5 x7 x6 1) else (f_Re_ways_132 w x1 x5 x7 x6)))))) else (f_Re_ways_132 w x1 x5 x7 x6)))
noncomputable def f_Re_ways_47 (w : World) (x1 : Int) (x5 : Int) (x6 : Int) (x7 : Int) : Option (World × Int) :=
  lp (fun z : (Int × Int) => f_Re_ways_47B w x1 x5 z.1 z.2) (x6, x7)
noncomputable def f_Re_ways (w : World) (x1 : Int) (x2 : Int) (x3 : Int) (x4 : Int) : Option (World × Int) :=
  bnd (f_Re_noRelation w x1) fun v2 => if v2.2 = 0 then (bnd (f_Re_hasTuple v2.1 (v2.1 1 1) x1 x2 x3 x4) fun v8 => if v8 = 0 then (some (v2.1, 0)) else (bnd (f_Re_place v2.1 (v2.1 1 1) x1 x2 x3 x4) fun v14 => f_Re_ways_47 v2.1 x1 v14 0 0)) else (some (v2.1, 0))
noncomputable def f_Re_costOf_141 (w : World) (x1 : Int) (x2 : Int) (x3 : Int) : Option ((Int × Int) ⊕ Int) :=
  bl (wr (x3 + 1)) fun n1 => some (Sum.inl (x2, n1))
noncomputable def f_Re_costOf_111 (w : World) (x1 : Int) (x2 : Int) (x3 : Int) (x4 : Int) (x5 : Int) (s0 : Int) : Option ((Int × Int) ⊕ Int) :=
  gd (0 ≤ x3 ∧ x3 < 95) (bnd (f_Re_place w (w 1 1) (w 18 x3.toNat) x4 x5 s0) fun v5 => gd (0 ≤ v5 ∧ v5 < 50) (bl (wr (x2 + (w 26 v5.toNat))) fun n9 => f_Re_costOf_141 w x1 n9 x3))
noncomputable def f_Re_costOf_76 (w : World) (x1 : Int) (x2 : Int) (x3 : Int) (x4 : Int) (s0 : Int) : Option ((Int × Int) ⊕ Int) :=
  gd (0 ≤ x3 ∧ x3 < 95) (gd (0 ≤ w 18 x3.toNat ∧ w 18 x3.toNat < 10) (if (w 3 (w 18 x3.toNat).toNat) ≤ 2 then (f_Re_costOf_111 w x1 x2 x3 x4 s0 0) else (gd (0 ≤ wr ((wr (3 * x3)) + 2) ∧ wr ((wr (3 * x3)) + 2) < 285) (bnd (f_Re_valueOf w (w 19 (wr ((wr (3 * x3)) + 2)).toNat)) fun v10 => f_Re_costOf_111 w x1 x2 x3 x4 s0 v10))))
noncomputable def f_Re_costOf_6B (w : World) (x1 : Int) (x2 : Int) (x3 : Int) : Option ((Int × Int) ⊕ Int) :=
  gd (0 ≤ x1 ∧ x1 < 19) (if (wr ((wr (5 * x1)) + (w 16 x1.toNat))) ≤ x3 then (some (Sum.inr x2)) else (gd (0 ≤ x3 ∧ x3 < 95) (if (w 17 x3.toNat) = 0 then (gd (0 ≤ wr (3 * x3) ∧ wr (3 * x3) < 285) (bnd (f_Re_valueOf w (w 19 (wr (3 * x3)).toNat)) fun v12 => gd (0 ≤ x3 ∧ x3 < 95) (gd (0 ≤ w 18 x3.toNat ∧ w 18 x3.toNat < 10) (if (w 3 (w 18 x3.toNat).toNat) ≤ 1 then (f_Re_costOf_76 w x1 x2 x3 v12 0) else (gd (0 ≤ wr ((wr (3 * x3)) + 1) ∧ wr ((wr (3 * x3)) + 1) < 285) (bnd (f_Re_valueOf w (w 19 (wr ((wr (3 * x3)) + 1)).toNat)) fun v23 => f_Re_costOf_76 w x1 x2 x3 v12 v23)))))) else (f_Re_costOf_141 w x1 x2 x3))))
noncomputable def f_Re_costOf_6 (w : World) (x1 : Int) (x2 : Int) (x3 : Int) : Option Int :=
  lp (fun z : (Int × Int) => f_Re_costOf_6B w x1 z.1 z.2) (x2, x3)
noncomputable def f_Re_costOf (w : World) (x1 : Int) : Option Int :=
  bl (wr (5 * x1)) fun n1 => f_Re_costOf_6 w x1 1 n1
noncomputable def f_Re_lower_35 (w : World) (x3 : Int) (s1 : Int) (s2 : Int) : Option (World × Int) :=
  gd (0 ≤ s1 ∧ s1 < 50) (bl (up w 26 s1.toNat s2) fun w2 => gd (x3 = 0 ∨ x3 = 1) (some (w2, x3)))
noncomputable def f_Re_lower_15 (w : World) (x1 : Int) (x2 : Int) (s0 : Int) : Option (World × Int) :=
  if s0 = 0 then (gd (0 ≤ x1 ∧ x1 < 50) (f_Re_lower_35 w s0 x1 (w 26 x1.toNat))) else (f_Re_lower_35 w s0 x1 x2)
noncomputable def f_Re_lower (w : World) (x1 : Int) (x2 : Int) : Option (World × Int) :=
  gd (0 ≤ x1 ∧ x1 < 50) (if (w 26 x1.toNat) ≤ x2 then (f_Re_lower_15 w x1 x2 0) else (f_Re_lower_15 w x1 x2 1))
noncomputable def f_Re_findCosts_224 (w : World) (x1 : Int) (x2 : Int) : Option ((World × Int × Int) ⊕ ((World × Int) ⊕ World)) :=
  bl (wr (x2 + 1)) fun n1 => some (Sum.inl (w, x1, n1))
noncomputable def f_Re_findCosts_220 (w : World) (x2 : Int) (s0 : Int) : Option ((World × Int) ⊕ ((World × Int × Int) ⊕ ((World × Int) ⊕ World))) :=
  some (Sum.inl (w, s0))
noncomputable def f_Re_findCosts_215 (w : World) (x2 : Int) : Option ((World × Int) ⊕ ((World × Int × Int) ⊕ ((World × Int) ⊕ World))) :=
  f_Re_findCosts_220 w x2 1
noncomputable def f_Re_findCosts_134B (w : World) (x1 : Int) (x2 : Int) : Option ((World × Int) ⊕ ((World × Int × Int) ⊕ ((World × Int) ⊕ World))) :=
  gd (0 ≤ x2 ∧ x2 < 12) (if (w 13 x2.toNat) = 0 then (gd (0 ≤ x2 ∧ x2 < 19) (bnd (f_Re_next w x2 (w 16 x2.toNat) (w 1 1)) fun v10 => if v10.2 = 0 then (bnd (f_Re_findCosts_224 v10.1 x1 x2) fun y14 => some (Sum.inr y14)) else (gd (0 ≤ x2 ∧ x2 < 19) (bnd (f_Re_headValue v10.1 x2 0) fun v19 => bnd (f_Re_headValue v10.1 x2 1) fun v22 => bnd (f_Re_headValue v10.1 x2 2) fun v25 => bnd (f_Re_place v10.1 (v10.1 1 1) (v10.1 14 x2.toNat) v19 v22 v25) fun v28 => bnd (f_Re_costOf v10.1 x2) fun v31 => bnd (f_Re_lower v10.1 v28 v31) fun v34 => if x1 = 0 then (if v34.2 = 0 then (f_Re_findCosts_220 v34.1 x2 0) else (f_Re_findCosts_215 v34.1 x2)) else (f_Re_findCosts_215 v34.1 x2))))) else (bnd (f_Re_findCosts_224 w x1 x2) fun y5 => some (Sum.inr y5)))
noncomputable def f_Re_findCosts_134 (w : World) (x1 : Int) (x2 : Int) : Option ((World × Int × Int) ⊕ ((World × Int) ⊕ World)) :=
  lp (fun z : (World × Int) => f_Re_findCosts_134B z.1 z.2 x2) (w, x1)
noncomputable def f_Re_findCosts_122B (w : World) (x1 : Int) (x2 : Int) : Option ((World × Int × Int) ⊕ ((World × Int) ⊕ World)) :=
  if (w 1 14) ≤ x2 then (some (Sum.inr (Sum.inl (w, x1)))) else (bnd (f_Re_begin w ) fun v5 => f_Re_findCosts_134 v5 x1 x2)
noncomputable def f_Re_findCosts_122 (w : World) (x1 : Int) (x2 : Int) : Option ((World × Int) ⊕ World) :=
  lp (fun z : (World × Int × Int) => f_Re_findCosts_122B z.1 z.2.1 z.2.2) (w, x1, x2)
noncomputable def f_Re_findCosts_114B (w : World) (x1 : Int) : Option ((World × Int) ⊕ World) :=
  if x1 = 0 then (some (Sum.inr w)) else (f_Re_findCosts_122 w 0 0)
noncomputable def f_Re_findCosts_114 (w : World) (x1 : Int) : Option World :=
  lp (fun z : (World × Int) => f_Re_findCosts_114B z.1 z.2) (w, x1)
noncomputable def f_Re_findCosts_106 (w : World) (x1 : Int) : Option ((World × Int) ⊕ World) :=
  bl (wr (x1 + 1)) fun n1 => some (Sum.inl (w, n1))
noncomputable def f_Re_findCosts_32B (w : World) (x1 : Int) : Option ((World × Int) ⊕ World) :=
  if (w 1 7) ≤ x1 then (bnd (f_Re_findCosts_114 w 1) fun y4 => some (Sum.inr y4)) else (bnd (f_Re_holdsIn w x1 (w 1 1) 0) fun v7 => if v7 = 0 then (f_Re_findCosts_106 w x1) else (gd (0 ≤ x1 ∧ x1 < 24) (gd (0 ≤ wr (3 * x1) ∧ wr (3 * x1) < 72) (gd (0 ≤ wr ((wr (3 * x1)) + 1) ∧ wr ((wr (3 * x1)) + 1) < 72) (gd (0 ≤ wr ((wr (3 * x1)) + 2) ∧ wr ((wr (3 * x1)) + 2) < 72) (bnd (f_Re_place w (w 1 1) (w 7 x1.toNat) (w 8 (wr (3 * x1)).toNat) (w 8 (wr ((wr (3 * x1)) + 1)).toNat) (w 8 (wr ((wr (3 * x1)) + 2)).toNat)) fun v21 => gd (0 ≤ x1 ∧ x1 < 24) (bnd (f_Re_lower w v21 (w 9 x1.toNat)) fun v26 => f_Re_findCosts_106 v26.1 x1)))))))
noncomputable def f_Re_findCosts_32 (w : World) (x1 : Int) : Option World :=
  lp (fun z : (World × Int) => f_Re_findCosts_32B z.1 z.2) (w, x1)
noncomputable def f_Re_findCosts_2B (w : World) (x1 : Int) : Option ((World × Int) ⊕ World) :=
  gd (0 ≤ w 1 1 ∧ w 1 1 < 5) (if (w 20 (w 1 1).toNat) ≤ x1 then (bnd (f_Re_findCosts_32 w 0) fun y6 => some (Sum.inr y6)) else (gd (0 ≤ x1 ∧ x1 < 50) (bl (up w 26 x1.toNat 1000000) fun w8 => bl (wr (x1 + 1)) fun n9 => some (Sum.inl (w8, n9)))))
noncomputable def f_Re_findCosts_2 (w : World) (x1 : Int) : Option World :=
  lp (fun z : (World × Int) => f_Re_findCosts_2B z.1 z.2) (w, x1)
noncomputable def f_Re_findCosts (w : World) : Option World :=
  f_Re_findCosts_2 w 0
noncomputable def f_Re_cheapest (w : World) (x1 : Int) (x2 : Int) (x3 : Int) (x4 : Int) : Option (World × Int) :=
  bnd (f_Re_noRelation w x1) fun v2 => if v2.2 = 0 then (bnd (f_Re_hasTuple v2.1 (v2.1 1 1) x1 x2 x3 x4) fun v8 => if v8 = 0 then (some (v2.1, (-1))) else (bnd (f_Re_findCosts v2.1 ) fun v13 => bnd (f_Re_place v13 (v13 1 1) x1 x2 x3 x4) fun v17 => gd (0 ≤ v17 ∧ v17 < 50) (some (v13, v13 26 v17.toNat)))) else (some (v2.1, 0))
noncomputable def f_Re_needed_93 (w : World) (x1 : Int) (x2 : Int) (x3 : Int) (x4 : Int) (x5 : Int) (x6 : Int) : Option ((World × Int × Int) ⊕ (World × Int)) :=
  bl (wr (x6 + 1)) fun n1 => some (Sum.inl (w, x5, n1))
noncomputable def f_Re_needed_32B (w : World) (x1 : Int) (x2 : Int) (x3 : Int) (x4 : Int) (x5 : Int) (x6 : Int) : Option ((World × Int × Int) ⊕ (World × Int)) :=
  if (w 1 7) ≤ x6 then (some (Sum.inr (w, x5))) else (bnd (f_Re_holdsIn w x6 (w 1 1) 0) fun v6 => if v6 = 0 then (f_Re_needed_93 w x1 x2 x3 x4 x5 x6) else (bnd (f_Re_build w 4 (w 1 1) (ishl 1 x6)) fun v12 => if v12.2 = 0 then (f_Re_needed_93 v12.1 x1 x2 x3 x4 x5 x6) else (bnd (f_Re_hasTuple v12.1 4 x1 x2 x3 x4) fun v17 => if v17 = 0 then (bl (ior x5 (ishl 1 x6)) fun n21 => f_Re_needed_93 v12.1 x1 x2 x3 x4 n21 x6) else (f_Re_needed_93 v12.1 x1 x2 x3 x4 x5 x6))))
noncomputable def f_Re_needed_32 (w : World) (x1 : Int) (x2 : Int) (x3 : Int) (x4 : Int) (x5 : Int) (x6 : Int) : Option (World × Int) :=
  lp (fun z : (World × Int × Int) => f_Re_needed_32B z.1 x1 x2 x3 x4 z.2.1 z.2.2) (w, x5, x6)
noncomputable def f_Re_needed (w : World) (x1 : Int) (x2 : Int) (x3 : Int) (x4 : Int) : Option (World × Int) :=
  bnd (f_Re_noRelation w x1) fun v2 => if v2.2 = 0 then (bnd (f_Re_hasTuple v2.1 (v2.1 1 1) x1 x2 x3 x4) fun v8 => if v8 = 0 then (some (v2.1, 0)) else (f_Re_needed_32 v2.1 x1 x2 x3 x4 0 0)) else (some (v2.1, 0))
noncomputable def f_Re_giveHead_116 (w : World) (x1 : Int) (x2 : Int) (x3 : Int) (x4 : Int) (x6 : Int) (x8 : Int) (s0 : Int) : Option ((World × Int × Int) ⊕ (World × Int)) :=
  bl (wr (x8 + 1)) fun n1 => some (Sum.inl (w, s0, n1))
noncomputable def f_Re_giveHead_115 (w : World) (x1 : Int) (x2 : Int) (x3 : Int) (x4 : Int) (x6 : Int) (x8 : Int) : Option ((World × Int × Int) ⊕ (World × Int)) :=
  f_Re_giveHead_116 w x1 x2 x3 x4 x6 x8 0
noncomputable def f_Re_giveHead_111 (w : World) (x1 : Int) (x2 : Int) (x3 : Int) (x4 : Int) (x6 : Int) (x8 : Int) : Option ((World × Int × Int) ⊕ (World × Int)) :=
  f_Re_giveHead_116 w x1 x2 x3 x4 x6 x8 1
noncomputable def f_Re_giveHead_77 (w : World) (x1 : Int) (x2 : Int) (x3 : Int) (x4 : Int) (x6 : Int) (x7 : Int) (x8 : Int) (s0 : Int) : Option ((World × Int × Int) ⊕ (World × Int)) :=
  if x7 = 0 then (f_Re_giveHead_115 w x1 x2 x3 x4 x6 x8) else (if s0 = (-9) then (f_Re_giveHead_111 w x1 x2 x3 x4 x6 x8) else (gd (0 ≤ wr ((wr (3 * x1)) + x8) ∧ wr ((wr (3 * x1)) + x8) < 57) (bnd (f_Re_give w (w 15 (wr ((wr (3 * x1)) + x8)).toNat) s0) fun v8 => if v8.2 = 0 then (f_Re_giveHead_115 v8.1 x1 x2 x3 x4 x6 x8) else (f_Re_giveHead_111 v8.1 x1 x2 x3 x4 x6 x8))))
noncomputable def f_Re_giveHead_49B (w : World) (x1 : Int) (x2 : Int) (x3 : Int) (x4 : Int) (x6 : Int) (x7 : Int) (x8 : Int) : Option ((World × Int × Int) ⊕ (World × Int)) :=
  if x6 ≤ x8 then (gd (x7 = 0 ∨ x7 = 1) (some (Sum.inr (w, x7)))) else (if x8 = 0 then (f_Re_giveHead_77 w x1 x2 x3 x4 x6 x7 x8 x2) else (if x8 = 1 then (f_Re_giveHead_77 w x1 x2 x3 x4 x6 x7 x8 x3) else (f_Re_giveHead_77 w x1 x2 x3 x4 x6 x7 x8 x4)))
noncomputable def f_Re_giveHead_49 (w : World) (x1 : Int) (x2 : Int) (x3 : Int) (x4 : Int) (x6 : Int) (x7 : Int) (x8 : Int) : Option (World × Int) :=
  lp (fun z : (World × Int × Int) => f_Re_giveHead_49B z.1 x1 x2 x3 x4 x6 z.2.1 z.2.2) (w, x7, x8)
noncomputable def f_Re_giveHead_37 (w : World) (x1 : Int) (x2 : Int) (x3 : Int) (x4 : Int) (s0 : Int) : Option (World × Int) :=
  bnd (f_Re_begin w ) fun v2 => f_Re_giveHead_49 v2 x1 x2 x3 x4 s0 1 0
noncomputable def f_Re_giveHead (w : World) (x1 : Int) (x2 : Int) (x3 : Int) (x4 : Int) : Option (World × Int) :=
  gd (0 ≤ x1 ∧ x1 < 19) (bl (w 14 x1.toNat) fun n3 => gd (0 ≤ n3 ∧ n3 < 10) (if (w 4 n3.toNat) = 0 then (gd (0 ≤ n3 ∧ n3 < 10) (f_Re_giveHead_37 w x1 x2 x3 x4 (w 3 n3.toNat))) else (gd (0 ≤ n3 ∧ n3 < 10) (f_Re_giveHead_37 w x1 x2 x3 x4 (wr ((w 3 n3.toNat) - 1))))))
noncomputable def f_Re_whyNot_214 (w : World) (x1 : Int) (x2 : Int) (x3 : Int) (x4 : Int) (x6 : Int) (x7 : Int) (x8 : Int) : Option ((World × Int × Int × Int) ⊕ (World × Int)) :=
  bl (wr (x8 + 1)) fun n1 => some (Sum.inl (w, x6, x7, n1))
noncomputable def f_Re_whyNot_212 (w : World) (x1 : Int) (x2 : Int) (x3 : Int) (x4 : Int) (x6 : Int) (x8 : Int) (s0 : Int) : Option ((World × Int × Int × Int) ⊕ (World × Int)) :=
  f_Re_whyNot_214 w x1 x2 x3 x4 x6 s0 x8
noncomputable def f_Re_whyNot_196 (w : World) (x1 : Int) (x2 : Int) (x3 : Int) (x4 : Int) (x7 : Int) (x8 : Int) (x9 : Int) (s0 : Int) : Option ((World × Int × Int × Int) ⊕ (World × Int)) :=
  if x9 ≤ x7 then (f_Re_whyNot_212 w x1 x2 x3 x4 s0 x8 x7) else (f_Re_whyNot_212 w x1 x2 x3 x4 s0 x8 x9)
noncomputable def f_Re_whyNot_182 (w : World) (x1 : Int) (x2 : Int) (x3 : Int) (x4 : Int) (x6 : Int) (x7 : Int) (x8 : Int) (x9 : Int) : Option ((World × Int × Int × Int) ⊕ (World × Int)) :=
  if x9 ≤ x7 then (f_Re_whyNot_196 w x1 x2 x3 x4 x7 x8 x9 x6) else (f_Re_whyNot_196 w x1 x2 x3 x4 x7 x8 x9 x8)
noncomputable def f_Re_whyNot_134B (w : World) (x1 : Int) (x2 : Int) (x3 : Int) (x4 : Int) (x6 : Int) (x7 : Int) (x8 : Int) (x9 : Int) : Option ((World × Int) ⊕ ((World × Int × Int × Int) ⊕ (World × Int))) :=
  gd (0 ≤ x8 ∧ x8 < 19) (if (w 16 x8.toNat) ≤ x9 then (bnd (f_Re_whyNot_182 w x1 x2 x3 x4 x6 x7 x8 x9) fun y5 => some (Sum.inr y5)) else (bnd (f_Re_giveHead w x8 x2 x3 x4) fun v7 => if v7.2 = 0 then (bnd (f_Re_whyNot_182 v7.1 x1 x2 x3 x4 x6 x7 x8 x9) fun y11 => some (Sum.inr y11)) else (bnd (f_Re_next v7.1 x8 (wr (x9 + 1)) (v7.1 1 1)) fun v14 => if v14.2 = 0 then (bnd (f_Re_whyNot_182 v14.1 x1 x2 x3 x4 x6 x7 x8 x9) fun y18 => some (Sum.inr y18)) else (bl (wr (x9 + 1)) fun n19 => some (Sum.inl (v14.1, n19))))))
noncomputable def f_Re_whyNot_134 (w : World) (x1 : Int) (x2 : Int) (x3 : Int) (x4 : Int) (x6 : Int) (x7 : Int) (x8 : Int) (x9 : Int) : Option ((World × Int × Int × Int) ⊕ (World × Int)) :=
  lp (fun z : (World × Int) => f_Re_whyNot_134B z.1 x1 x2 x3 x4 x6 x7 x8 z.2) (w, x9)
noncomputable def f_Re_whyNot_88B (w : World) (x1 : Int) (x2 : Int) (x3 : Int) (x4 : Int) (x6 : Int) (x7 : Int) (x8 : Int) : Option ((World × Int × Int × Int) ⊕ (World × Int)) :=
  if (w 1 14) ≤ x8 then (if x6 = (-1) then (some (Sum.inr (w, (-1)))) else (some (Sum.inr (w, wr ((wr (10 * x6)) + x7))))) else (gd (0 ≤ x8 ∧ x8 < 12) (if (w 13 x8.toNat) = 0 then (gd (0 ≤ x8 ∧ x8 < 19) (if (w 14 x8.toNat) = x1 then (bnd (f_Re_giveHead w x8 x2 x3 x4) fun v15 => if v15.2 = 0 then (f_Re_whyNot_214 v15.1 x1 x2 x3 x4 x6 x7 x8) else (f_Re_whyNot_134 v15.1 x1 x2 x3 x4 x6 x7 x8 0)) else (f_Re_whyNot_214 w x1 x2 x3 x4 x6 x7 x8))) else (f_Re_whyNot_214 w x1 x2 x3 x4 x6 x7 x8)))
noncomputable def f_Re_whyNot_88 (w : World) (x1 : Int) (x2 : Int) (x3 : Int) (x4 : Int) (x6 : Int) (x7 : Int) (x8 : Int) : Option (World × Int) :=
  lp (fun z : (World × Int × Int × Int) => f_Re_whyNot_88B z.1 x1 x2 x3 x4 z.2.1 z.2.2.1 z.2.2.2) (w, x6, x7, x8)
noncomputable def f_Re_whyNot_71 (w : World) (x1 : Int) (x2 : Int) (x3 : Int) (x4 : Int) (s1 : Int) : Option (World × Int) :=
  bnd (f_Re_refused w s1) fun v2 => if v2.2 = 0 then (f_Re_whyNot_88 v2.1 x1 x2 x3 x4 (-1) (-1) 0) else (some (v2.1, 0))
noncomputable def f_Re_whyNot_26 (w : World) (x1 : Int) (x2 : Int) (x3 : Int) (x4 : Int) (s0 : Int) : Option (World × Int) :=
  bnd (f_Re_isRelation w x1) fun v2 => if v2 = 0 then (f_Re_whyNot_71 w x1 x2 x3 x4 1) else (if s0 = 0 then (f_Re_whyNot_71 w x1 x2 x3 x4 2) else (bnd (f_Re_hasTuple w (w 1 1) x1 x2 x3 x4) fun v10 => if v10 = 0 then (f_Re_whyNot_71 w x1 x2 x3 x4 0) else (f_Re_whyNot_71 w x1 x2 x3 x4 3)))
noncomputable def f_Re_whyNot_25 (w : World) (x1 : Int) (x2 : Int) (x3 : Int) (x4 : Int) : Option (World × Int) :=
  f_Re_whyNot_26 w x1 x2 x3 x4 0
noncomputable def f_Re_whyNot (w : World) (x1 : Int) (x2 : Int) (x3 : Int) (x4 : Int) : Option (World × Int) :=
  bnd (f_Re_isRelation w x1) fun v2 => if v2 = 0 then (f_Re_whyNot_25 w x1 x2 x3 x4) else (bnd (f_Re_areValues w x1 x2 x3 x4 0) fun v7 => if v7 = 0 then (f_Re_whyNot_25 w x1 x2 x3 x4) else (f_Re_whyNot_26 w x1 x2 x3 x4 1))
noncomputable def f_Re_isKeyBroken_146 (w : World) (x1 : Int) (x2 : Int) (x4 : Int) (x5 : Int) (s0 : Int) : Option ((Int × Int) ⊕ ((Int × Int) ⊕ Int)) :=
  bl (wr (x5 + 1)) fun n1 => some (Sum.inl (s0, n1))
noncomputable def f_Re_isKeyBroken_141 (w : World) (x1 : Int) (x2 : Int) (x4 : Int) (x5 : Int) : Option ((Int × Int) ⊕ ((Int × Int) ⊕ Int)) :=
  f_Re_isKeyBroken_146 w x1 x2 x4 x5 1
noncomputable def f_Re_isKeyBroken_124 (w : World) (x1 : Int) (x2 : Int) (x3 : Int) (x4 : Int) (x5 : Int) (x6 : Int) (x7 : Int) (x9 : Int) (s0 : Int) : Option ((Int × Int) ⊕ ((Int × Int) ⊕ ((Int × Int) ⊕ Int))) :=
  bl (wr (x9 + 1)) fun n1 => some (Sum.inl (s0, n1))
noncomputable def f_Re_isKeyBroken_123 (w : World) (x1 : Int) (x2 : Int) (x3 : Int) (x4 : Int) (x5 : Int) (x6 : Int) (x7 : Int) (x9 : Int) : Option ((Int × Int) ⊕ ((Int × Int) ⊕ ((Int × Int) ⊕ Int))) :=
  f_Re_isKeyBroken_124 w x1 x2 x3 x4 x5 x6 x7 x9 0
noncomputable def f_Re_isKeyBroken_76B (w : World) (x1 : Int) (x2 : Int) (x3 : Int) (x4 : Int) (x5 : Int) (x6 : Int) (x7 : Int) (x8 : Int) (x9 : Int) : Option ((Int × Int) ⊕ ((Int × Int) ⊕ ((Int × Int) ⊕ Int))) :=
  gd (0 ≤ x2 ∧ x2 < 10) (if (w 5 x2.toNat) ≤ x9 then (if x3 = 0 then (if x8 = 0 then (bnd (f_Re_isKeyBroken_146 w x1 x2 x4 x5 0) fun y10 => some (Sum.inr y10)) else (bnd (f_Re_isKeyBroken_141 w x1 x2 x4 x5) fun y11 => some (Sum.inr y11))) else (bnd (f_Re_isKeyBroken_141 w x1 x2 x4 x5) fun y7 => some (Sum.inr y7))) else (if x8 = 0 then (f_Re_isKeyBroken_123 w x1 x2 x3 x4 x5 x6 x7 x9) else (gd (0 ≤ wr ((wr (3 * x6)) + x9) ∧ wr ((wr (3 * x6)) + x9) < 750) (gd (0 ≤ wr ((wr (3 * x7)) + x9) ∧ wr ((wr (3 * x7)) + x9) < 750) (if (w 22 (wr ((wr (3 * x6)) + x9)).toNat) = (w 22 (wr ((wr (3 * x7)) + x9)).toNat) then (f_Re_isKeyBroken_124 w x1 x2 x3 x4 x5 x6 x7 x9 1) else (f_Re_isKeyBroken_123 w x1 x2 x3 x4 x5 x6 x7 x9))))))
noncomputable def f_Re_isKeyBroken_76 (w : World) (x1 : Int) (x2 : Int) (x3 : Int) (x4 : Int) (x5 : Int) (x6 : Int) (x7 : Int) (x8 : Int) (x9 : Int) : Option ((Int × Int) ⊕ ((Int × Int) ⊕ Int)) :=
  lp (fun z : (Int × Int) => f_Re_isKeyBroken_76B w x1 x2 x3 x4 x5 x6 x7 z.1 z.2) (x8, x9)
noncomputable def f_Re_isKeyBroken_71 (w : World) (x1 : Int) (x2 : Int) (x3 : Int) (x4 : Int) (x5 : Int) (x6 : Int) (x7 : Int) (s0 : Int) : Option ((Int × Int) ⊕ ((Int × Int) ⊕ Int)) :=
  f_Re_isKeyBroken_76 w x1 x2 x3 x4 x5 x6 x7 s0 0
noncomputable def f_Re_isKeyBroken_70 (w : World) (x1 : Int) (x2 : Int) (x3 : Int) (x4 : Int) (x5 : Int) (x6 : Int) (x7 : Int) : Option ((Int × Int) ⊕ ((Int × Int) ⊕ Int)) :=
  f_Re_isKeyBroken_71 w x1 x2 x3 x4 x5 x6 x7 0
noncomputable def f_Re_isKeyBroken_19B (w : World) (x1 : Int) (x2 : Int) (x3 : Int) (x4 : Int) (x5 : Int) : Option ((Int × Int) ⊕ ((Int × Int) ⊕ Int)) :=
  if x4 ≤ x5 then (bl (wr (x4 + 1)) fun n3 => some (Sum.inr (Sum.inl (x3, n3)))) else (bl (wr ((wr (50 * x1)) + x4)) fun n4 => bl (wr ((wr (50 * x1)) + x5)) fun n5 => gd (0 ≤ n4 ∧ n4 < 250) (if (w 21 n4.toNat) = x2 then (gd (0 ≤ n5 ∧ n5 < 250) (if (w 21 n5.toNat) = x2 then (f_Re_isKeyBroken_71 w x1 x2 x3 x4 x5 n4 n5 1) else (f_Re_isKeyBroken_70 w x1 x2 x3 x4 x5 n4 n5))) else (f_Re_isKeyBroken_70 w x1 x2 x3 x4 x5 n4 n5)))
noncomputable def f_Re_isKeyBroken_19 (w : World) (x1 : Int) (x2 : Int) (x3 : Int) (x4 : Int) (x5 : Int) : Option ((Int × Int) ⊕ Int) :=
  lp (fun z : (Int × Int) => f_Re_isKeyBroken_19B w x1 x2 z.1 x4 z.2) (x3, x5)
noncomputable def f_Re_isKeyBroken_5B (w : World) (x1 : Int) (x2 : Int) (x3 : Int) (x4 : Int) : Option ((Int × Int) ⊕ Int) :=
  gd (0 ≤ x1 ∧ x1 < 5) (if (w 20 x1.toNat) ≤ x4 then (gd (x3 = 0 ∨ x3 = 1) (some (Sum.inr x3))) else (f_Re_isKeyBroken_19 w x1 x2 x3 x4 0))
noncomputable def f_Re_isKeyBroken_5 (w : World) (x1 : Int) (x2 : Int) (x3 : Int) (x4 : Int) : Option Int :=
  lp (fun z : (Int × Int) => f_Re_isKeyBroken_5B w x1 x2 z.1 z.2) (x3, x4)
noncomputable def f_Re_isKeyBroken (w : World) (x1 : Int) (x2 : Int) : Option Int :=
  f_Re_isKeyBroken_5 w x1 x2 0 0
noncomputable def f_Re_brokenIn_90 (w : World) (x1 : Int) (x3 : Int) (s0 : Int) (s1 : Int) : Option ((Int × Int) ⊕ (World × Int)) :=
  bl (wr (s0 + s1)) fun n1 => bl (wr (x3 + 1)) fun n2 => some (Sum.inl (n1, n2))
noncomputable def f_Re_brokenIn_89 (w : World) (x1 : Int) (x3 : Int) (s0 : Int) : Option ((Int × Int) ⊕ (World × Int)) :=
  f_Re_brokenIn_90 w x1 x3 s0 0
noncomputable def f_Re_brokenIn_51B (w : World) (x1 : Int) (x2 : Int) (x3 : Int) : Option ((Int × Int) ⊕ (World × Int)) :=
  if 10 ≤ x3 then (some (Sum.inr (w, x2))) else (gd (0 ≤ x3 ∧ x3 < 10) (if (w 2 x3.toNat) = 0 then (f_Re_brokenIn_89 w x1 x3 x2) else (gd (0 ≤ x3 ∧ x3 < 10) (if (w 4 x3.toNat) = 0 then (bnd (f_Re_isKeyBroken w x1 x3) fun v12 => if v12 = 0 then (f_Re_brokenIn_89 w x1 x3 x2) else (f_Re_brokenIn_90 w x1 x3 x2 1)) else (f_Re_brokenIn_89 w x1 x3 x2)))))
noncomputable def f_Re_brokenIn_51 (w : World) (x1 : Int) (x2 : Int) (x3 : Int) : Option (World × Int) :=
  lp (fun z : (Int × Int) => f_Re_brokenIn_51B w x1 z.1 z.2) (x2, x3)
noncomputable def f_Re_brokenIn_41 (w : World) (x1 : Int) (x3 : Int) (s0 : Int) (s1 : Int) : Option ((World × Int × Int) ⊕ (World × Int)) :=
  bl (wr (s0 + s1)) fun n1 => bl (wr (x3 + 1)) fun n2 => some (Sum.inl (w, n1, n2))
noncomputable def f_Re_brokenIn_5B (w : World) (x1 : Int) (x2 : Int) (x3 : Int) : Option ((World × Int × Int) ⊕ (World × Int)) :=
  if (wr (12 + (w 1 15))) ≤ x3 then (bnd (f_Re_brokenIn_51 w x1 x2 0) fun y4 => some (Sum.inr y4)) else (bnd (f_Re_begin w ) fun v6 => gd (0 ≤ x3 ∧ x3 < 19) (bnd (f_Re_next v6 x3 (v6 16 x3.toNat) x1) fun v11 => if v11.2 = 0 then (f_Re_brokenIn_41 v11.1 x1 x3 x2 0) else (f_Re_brokenIn_41 v11.1 x1 x3 x2 1)))
noncomputable def f_Re_brokenIn_5 (w : World) (x1 : Int) (x2 : Int) (x3 : Int) : Option (World × Int) :=
  lp (fun z : (World × Int × Int) => f_Re_brokenIn_5B z.1 x1 z.2.1 z.2.2) (w, x2, x3)
noncomputable def f_Re_brokenIn (w : World) (x1 : Int) : Option (World × Int) :=
  f_Re_brokenIn_5 w x1 0 12
noncomputable def f_Re_broken (w : World) : Option (World × Int) :=
  bnd (f_Re_brokenIn w (w 1 1)) fun v3 => bnd (f_Re_fine v3.1 v3.2) fun v6 => some (v6.1, v6.2)
noncomputable def f_Re_repairs (w : World) (x1 : Int) : Option (World × Int) :=
  bnd (f_Re_build w 4 (w 1 1) x1) fun v3 => if v3.2 = 0 then (some (v3.1, 0)) else (bnd (f_Re_brokenIn v3.1 4) fun v8 => if v8.2 = 0 then (some (v8.1, 1)) else (some (v8.1, 0)))
noncomputable def f_Re_repair_126 (w : World) (x1 : Int) (x2 : Int) : Option ((World × Int) ⊕ ((World × Int) ⊕ (World × Int))) :=
  bl (wr (x2 + 1)) fun n1 => some (Sum.inl (w, n1))
noncomputable def f_Re_repair_73B (w : World) (x1 : Int) (x2 : Int) : Option ((World × Int) ⊕ ((World × Int) ⊕ (World × Int))) :=
  if x1 ≤ x2 then (bl (wr (x1 + 1)) fun n3 => some (Sum.inr (Sum.inl (w, n3)))) else (bnd (f_Re_holdsIn w x1 (w 1 1) 0) fun v6 => if v6 = 0 then (f_Re_repair_126 w x1 x2) else (bnd (f_Re_holdsIn w x2 (w 1 1) 0) fun v12 => if v12 = 0 then (f_Re_repair_126 w x1 x2) else (bnd (f_Re_repairs w (ior (ishl 1 x1) (ishl 1 x2))) fun v17 => if v17.2 = 0 then (f_Re_repair_126 v17.1 x1 x2) else (some (Sum.inr (Sum.inr (v17.1, ior (ishl 1 x1) (ishl 1 x2))))))))
noncomputable def f_Re_repair_73 (w : World) (x1 : Int) (x2 : Int) : Option ((World × Int) ⊕ (World × Int)) :=
  lp (fun z : (World × Int) => f_Re_repair_73B z.1 x1 z.2) (w, x2)
noncomputable def f_Re_repair_63B (w : World) (x1 : Int) : Option ((World × Int) ⊕ (World × Int)) :=
  if (w 1 7) ≤ x1 then (some (Sum.inr (w, (-1)))) else (f_Re_repair_73 w x1 0)
noncomputable def f_Re_repair_63 (w : World) (x1 : Int) : Option (World × Int) :=
  lp (fun z : (World × Int) => f_Re_repair_63B z.1 z.2) (w, x1)
noncomputable def f_Re_repair_55 (w : World) (x1 : Int) : Option ((World × Int) ⊕ (World × Int)) :=
  bl (wr (x1 + 1)) fun n1 => some (Sum.inl (w, n1))
noncomputable def f_Re_repair_20B (w : World) (x1 : Int) : Option ((World × Int) ⊕ (World × Int)) :=
  if (w 1 7) ≤ x1 then (bnd (f_Re_repair_63 w 0) fun y4 => some (Sum.inr y4)) else (bnd (f_Re_holdsIn w x1 (w 1 1) 0) fun v7 => if v7 = 0 then (f_Re_repair_55 w x1) else (bnd (f_Re_repairs w (ishl 1 x1)) fun v12 => if v12.2 = 0 then (f_Re_repair_55 v12.1 x1) else (some (Sum.inr (v12.1, ishl 1 x1)))))
noncomputable def f_Re_repair_20 (w : World) (x1 : Int) : Option (World × Int) :=
  lp (fun z : (World × Int) => f_Re_repair_20B z.1 z.2) (w, x1)
noncomputable def f_Re_repair (w : World) : Option (World × Int) :=
  bl (up w 1 0 0) fun w1 => bnd (f_Re_brokenIn w1 (w1 1 1)) fun v4 => if v4.2 = 0 then (some (v4.1, 0)) else (f_Re_repair_20 v4.1 0)
noncomputable def f_Re_ask_168 (w : World) (x1 : Int) (x6 : Int) (x7 : Int) (x8 : Int) (x10 : Int) (s0 : Int) : Option ((Int × Int) ⊕ World) :=
  bl (wr (x10 + 1)) fun n1 => some (Sum.inl (s0, n1))
noncomputable def f_Re_ask_163 (w : World) (x1 : Int) (x6 : Int) (x7 : Int) (x8 : Int) (x10 : Int) : Option ((Int × Int) ⊕ World) :=
  f_Re_ask_168 w x1 x6 x7 x8 x10 1
noncomputable def f_Re_ask_167 (w : World) (x1 : Int) (x6 : Int) (x7 : Int) (x8 : Int) (x10 : Int) : Option ((Int × Int) ⊕ World) :=
  f_Re_ask_168 w x1 x6 x7 x8 x10 0
noncomputable def f_Re_ask_92B (w : World) (x1 : Int) (x6 : Int) (x7 : Int) (x8 : Int) (x9 : Int) (x10 : Int) : Option ((Int × Int) ⊕ World) :=
  if (w 1 32) ≤ x10 then (if x9 = 0 then (if 400 ≤ (w 1 32) then (some (Sum.inr w)) else (gd (0 ≤ w 1 32 ∧ w 1 32 < 400) (bl (up w 27 (w 1 32).toNat x1) fun w11 => gd (0 ≤ wr (3 * (w11 1 32)) ∧ wr (3 * (w11 1 32)) < 1200) (bl (up w11 28 (wr (3 * (w11 1 32))).toNat x6) fun w14 => gd (0 ≤ wr ((wr (3 * (w14 1 32))) + 1) ∧ wr ((wr (3 * (w14 1 32))) + 1) < 1200) (bl (up w14 28 (wr ((wr (3 * (w14 1 32))) + 1)).toNat x7) fun w17 => gd (0 ≤ wr ((wr (3 * (w17 1 32))) + 2) ∧ wr ((wr (3 * (w17 1 32))) + 2) < 1200) (bl (up w17 28 (wr ((wr (3 * (w17 1 32))) + 2)).toNat x8) fun w20 => bl (up w20 1 32 (wr ((w20 1 32) + 1))) fun w22 => some (Sum.inr w22))))))) else (some (Sum.inr w))) else (if x9 = 0 then (gd (0 ≤ x10 ∧ x10 < 400) (if (w 27 x10.toNat) = x1 then (gd (0 ≤ wr (3 * x10) ∧ wr (3 * x10) < 1200) (if (w 28 (wr (3 * x10)).toNat) = x6 then (gd (0 ≤ wr ((wr (3 * x10)) + 1) ∧ wr ((wr (3 * x10)) + 1) < 1200) (if (w 28 (wr ((wr (3 * x10)) + 1)).toNat) = x7 then (gd (0 ≤ wr ((wr (3 * x10)) + 2) ∧ wr ((wr (3 * x10)) + 2) < 1200) (if (w 28 (wr ((wr (3 * x10)) + 2)).toNat) = x8 then (f_Re_ask_163 w x1 x6 x7 x8 x10) else (f_Re_ask_167 w x1 x6 x7 x8 x10))) else (f_Re_ask_167 w x1 x6 x7 x8 x10))) else (f_Re_ask_167 w x1 x6 x7 x8 x10))) else (f_Re_ask_167 w x1 x6 x7 x8 x10))) else (f_Re_ask_163 w x1 x6 x7 x8 x10))
noncomputable def f_Re_ask_92 (w : World) (x1 : Int) (x6 : Int) (x7 : Int) (x8 : Int) (x9 : Int) (x10 : Int) : Option World :=
  lp (fun z : (Int × Int) => f_Re_ask_92B w x1 x6 x7 x8 z.1 z.2) (x9, x10)
noncomputable def f_Re_ask_84 (w : World) (x1 : Int) (x6 : Int) (x7 : Int) (s0 : Int) : Option World :=
  f_Re_ask_92 w x1 x6 x7 s0 0 0
noncomputable def f_Re_ask_82 (w : World) (x1 : Int) (x4 : Int) (x6 : Int) (x7 : Int) : Option World :=
  f_Re_ask_84 w x1 x6 x7 x4
noncomputable def f_Re_ask_60 (w : World) (x1 : Int) (x4 : Int) (x5 : Int) (x6 : Int) (s0 : Int) : Option World :=
  if x5 = 0 then (f_Re_ask_82 w x1 x4 x6 s0) else (gd (0 ≤ x1 ∧ x1 < 10) (if (w 3 x1.toNat) = 3 then (f_Re_ask_84 w x1 x6 s0 (-9)) else (f_Re_ask_82 w x1 x4 x6 s0)))
noncomputable def f_Re_ask_59 (w : World) (x1 : Int) (x3 : Int) (x4 : Int) (x5 : Int) (x6 : Int) : Option World :=
  f_Re_ask_60 w x1 x4 x5 x6 x3
noncomputable def f_Re_ask_37 (w : World) (x1 : Int) (x3 : Int) (x4 : Int) (x5 : Int) (s0 : Int) : Option World :=
  if x5 = 0 then (f_Re_ask_59 w x1 x3 x4 x5 s0) else (gd (0 ≤ x1 ∧ x1 < 10) (if (w 3 x1.toNat) = 2 then (f_Re_ask_60 w x1 x4 x5 s0 (-9)) else (f_Re_ask_59 w x1 x3 x4 x5 s0)))
noncomputable def f_Re_ask_36 (w : World) (x1 : Int) (x2 : Int) (x3 : Int) (x4 : Int) (x5 : Int) : Option World :=
  f_Re_ask_37 w x1 x3 x4 x5 x2
noncomputable def f_Re_ask_14 (w : World) (x1 : Int) (x2 : Int) (x3 : Int) (x4 : Int) (s0 : Int) : Option World :=
  if s0 = 0 then (f_Re_ask_36 w x1 x2 x3 x4 s0) else (gd (0 ≤ x1 ∧ x1 < 10) (if (w 3 x1.toNat) = 1 then (f_Re_ask_37 w x1 x3 x4 s0 (-9)) else (f_Re_ask_36 w x1 x2 x3 x4 s0)))
noncomputable def f_Re_ask (w : World) (x1 : Int) (x2 : Int) (x3 : Int) (x4 : Int) : Option World :=
  gd (0 ≤ x1 ∧ x1 < 10) (if (w 4 x1.toNat) = 0 then (f_Re_ask_14 w x1 x2 x3 x4 0) else (f_Re_ask_14 w x1 x2 x3 x4 1))
noncomputable def f_Re_asked (w : World) (x1 : Int) (x2 : Int) : Option Int :=
  gd (0 ≤ wr ((wr (3 * x1)) + x2) ∧ wr ((wr (3 * x1)) + x2) < 285) (bl (w 19 (wr ((wr (3 * x1)) + x2)).toNat) fun n3 => gd (0 ≤ x1 ∧ x1 < 95) (gd (0 ≤ w 18 x1.toNat ∧ w 18 x1.toNat < 10) (if x2 < (w 3 (w 18 x1.toNat).toNat) then (bnd (f_Re_isBound w n3) fun v11 => if v11 = 0 then (some (-9)) else (bnd (f_Re_valueOf w n3) fun v16 => some v16)) else (some 0))))
noncomputable def f_Re_askBy_147 (w : World) (x1 : Int) (x2 : Int) (x3 : Int) : Option ((World × Int) ⊕ World) :=
  bl (wr (x3 + 1)) fun n1 => some (Sum.inl (w, n1))
noncomputable def f_Re_askBy_142 (w : World) (x1 : Int) (x2 : Int) (x3 : Int) (x4 : Int) (s0 : Int) : Option ((World × Int) ⊕ ((World × Int) ⊕ World)) :=
  some (Sum.inl (w, s0))
noncomputable def f_Re_askBy_73B (w : World) (x1 : Int) (x2 : Int) (x3 : Int) (x4 : Int) (x5 : Int) : Option ((World × Int) ⊕ ((World × Int) ⊕ World)) :=
  if x5 = 0 then (bnd (f_Re_askBy_147 w x1 x2 x3) fun y3 => some (Sum.inr y3)) else (if 400 ≤ (w 1 32) then (bnd (f_Re_askBy_147 w x1 x2 x3) fun y7 => some (Sum.inr y7)) else (bnd (f_Re_next w x1 x3 (w 1 1)) fun v10 => if v10.2 = 0 then (bnd (f_Re_askBy_147 v10.1 x1 x2 x3) fun y14 => some (Sum.inr y14)) else (gd (0 ≤ x4 ∧ x4 < 95) (bnd (f_Re_asked v10.1 x4 0) fun v18 => bnd (f_Re_asked v10.1 x4 1) fun v21 => bnd (f_Re_asked v10.1 x4 2) fun v24 => bnd (f_Re_ask v10.1 (v10.1 18 x4.toNat) v18 v21 v24) fun v27 => if x3 ≤ 0 then (f_Re_askBy_142 v27 x1 x2 x3 x4 0) else (f_Re_askBy_142 v27 x1 x2 x3 x4 1)))))
noncomputable def f_Re_askBy_73 (w : World) (x1 : Int) (x2 : Int) (x3 : Int) (x4 : Int) (x5 : Int) : Option ((World × Int) ⊕ World) :=
  lp (fun z : (World × Int) => f_Re_askBy_73B z.1 x1 x2 x3 x4 z.2) (w, x5)
noncomputable def f_Re_askBy_71 (w : World) (x1 : Int) (x2 : Int) (x3 : Int) (x4 : Int) (s0 : Int) : Option ((World × Int) ⊕ World) :=
  f_Re_askBy_73 w x1 x2 x3 x4 s0
noncomputable def f_Re_askBy_70 (w : World) (x1 : Int) (x2 : Int) (x3 : Int) (x4 : Int) : Option ((World × Int) ⊕ World) :=
  f_Re_askBy_71 w x1 x2 x3 x4 0
noncomputable def f_Re_askBy_2B (w : World) (x1 : Int) (x2 : Int) (x3 : Int) : Option ((World × Int) ⊕ World) :=
  gd (0 ≤ x1 ∧ x1 < 19) (if (w 16 x1.toNat) ≤ x3 then (some (Sum.inr w)) else (bl (wr ((wr (5 * x1)) + x3)) fun n5 => gd (0 ≤ n5 ∧ n5 < 95) (if 1 < (w 17 n5.toNat) then (f_Re_askBy_70 w x1 x2 x3 n5) else (gd (0 ≤ wr (3 * x2) ∧ wr (3 * x2) < 1200) (gd (0 ≤ wr ((wr (3 * x2)) + 1) ∧ wr ((wr (3 * x2)) + 1) < 1200) (gd (0 ≤ wr ((wr (3 * x2)) + 2) ∧ wr ((wr (3 * x2)) + 2) < 1200) (bnd (f_Re_giveHead w x1 (w 28 (wr (3 * x2)).toNat) (w 28 (wr ((wr (3 * x2)) + 1)).toNat) (w 28 (wr ((wr (3 * x2)) + 2)).toNat)) fun v17 => if v17.2 = 0 then (f_Re_askBy_70 v17.1 x1 x2 x3 n5) else (f_Re_askBy_71 v17.1 x1 x2 x3 n5 1))))))))
noncomputable def f_Re_askBy_2 (w : World) (x1 : Int) (x2 : Int) (x3 : Int) : Option World :=
  lp (fun z : (World × Int) => f_Re_askBy_2B z.1 x1 x2 z.2) (w, x3)
noncomputable def f_Re_askBy (w : World) (x1 : Int) (x2 : Int) : Option World :=
  f_Re_askBy_2 w x1 x2 0
noncomputable def f_Re_goals_154 (w : World) : Option (World × Int) :=
  some (w, w 1 32)
noncomputable def f_Re_goals_142 (w : World) (x6 : Int) (x7 : Int) : Option ((World × Int) ⊕ ((World × Int) ⊕ (World × Int))) :=
  bl (wr (x7 + 1)) fun n1 => some (Sum.inl (w, n1))
noncomputable def f_Re_goals_98B (w : World) (x6 : Int) (x7 : Int) : Option ((World × Int) ⊕ ((World × Int) ⊕ (World × Int))) :=
  if (w 1 14) ≤ x7 then (bl (wr (x6 + 1)) fun n4 => some (Sum.inr (Sum.inl (w, n4)))) else (gd (0 ≤ x7 ∧ x7 < 12) (if (w 13 x7.toNat) = 0 then (gd (0 ≤ x7 ∧ x7 < 19) (gd (0 ≤ x6 ∧ x6 < 400) (if (w 14 x7.toNat) = (w 27 x6.toNat) then (bnd (f_Re_askBy w x7 x6) fun v16 => f_Re_goals_142 v16 x6 x7) else (f_Re_goals_142 w x6 x7)))) else (f_Re_goals_142 w x6 x7)))
noncomputable def f_Re_goals_98 (w : World) (x6 : Int) (x7 : Int) : Option ((World × Int) ⊕ (World × Int)) :=
  lp (fun z : (World × Int) => f_Re_goals_98B z.1 x6 z.2) (w, x7)
noncomputable def f_Re_goals_76B (w : World) (x6 : Int) : Option ((World × Int) ⊕ (World × Int)) :=
  if (w 1 32) ≤ x6 then (bnd (f_Re_goals_154 w) fun y4 => some (Sum.inr y4)) else (if 400 ≤ (w 1 32) then (bnd (f_Re_goals_154 w) fun y8 => some (Sum.inr y8)) else (f_Re_goals_98 w x6 0))
noncomputable def f_Re_goals_76 (w : World) (x6 : Int) : Option (World × Int) :=
  lp (fun z : (World × Int) => f_Re_goals_76B z.1 z.2) (w, x6)
noncomputable def f_Re_goals_51 (w : World) (x1 : Int) (x2 : Int) (x3 : Int) (x4 : Int) (s1 : Int) : Option (World × Int) :=
  bnd (f_Re_refused w s1) fun v2 => if v2.2 = 0 then (bl (up v2.1 1 32 0) fun w6 => bnd (f_Re_ask w6 x1 x2 x3 x4) fun v8 => f_Re_goals_76 v8 0) else (some (v2.1, 0))
noncomputable def f_Re_goals_26 (w : World) (x1 : Int) (x2 : Int) (x3 : Int) (x4 : Int) (s0 : Int) : Option (World × Int) :=
  bnd (f_Re_isRelation w x1) fun v2 => if v2 = 0 then (f_Re_goals_51 w x1 x2 x3 x4 1) else (if s0 = 0 then (f_Re_goals_51 w x1 x2 x3 x4 2) else (f_Re_goals_51 w x1 x2 x3 x4 0))
noncomputable def f_Re_goals_25 (w : World) (x1 : Int) (x2 : Int) (x3 : Int) (x4 : Int) : Option (World × Int) :=
  f_Re_goals_26 w x1 x2 x3 x4 0
noncomputable def f_Re_goals (w : World) (x1 : Int) (x2 : Int) (x3 : Int) (x4 : Int) : Option (World × Int) :=
  bnd (f_Re_isRelation w x1) fun v2 => if v2 = 0 then (f_Re_goals_25 w x1 x2 x3 x4) else (bnd (f_Re_areValues w x1 x2 x3 x4 1) fun v7 => if v7 = 0 then (f_Re_goals_25 w x1 x2 x3 x4) else (f_Re_goals_26 w x1 x2 x3 x4 1))
noncomputable def f_Re_searched_60 (w : World) (x1 : Int) (x2 : Int) (x4 : Int) (s0 : Int) (s1 : Int) : Option ((Int × Int) ⊕ Int) :=
  bl (ior s0 s1) fun n1 => bl (wr (x4 + 1)) fun n2 => some (Sum.inl (n1, n2))
noncomputable def f_Re_searched_52 (w : World) (x1 : Int) (x2 : Int) (x4 : Int) (s0 : Int) : Option ((Int × Int) ⊕ Int) :=
  f_Re_searched_60 w x1 x2 x4 s0 (ishl 1 x4)
noncomputable def f_Re_searched_5B (w : World) (x1 : Int) (x2 : Int) (x3 : Int) (x4 : Int) : Option ((Int × Int) ⊕ Int) :=
  gd (0 ≤ x1 ∧ x1 < 95) (gd (0 ≤ w 18 x1.toNat ∧ w 18 x1.toNat < 10) (if (w 3 (w 18 x1.toNat).toNat) ≤ x4 then (some (Sum.inr x3)) else (gd (0 ≤ wr ((wr (3 * x1)) + x4) ∧ wr ((wr (3 * x1)) + x4) < 285) (bl (w 19 (wr ((wr (3 * x1)) + x4)).toNat) fun n9 => if 0 ≤ n9 then (f_Re_searched_52 w x1 x2 x4 x3) else (if (iand (ishr x2 (wr ((-1) - n9))) 1) = 1 then (f_Re_searched_52 w x1 x2 x4 x3) else (f_Re_searched_60 w x1 x2 x4 x3 0))))))
noncomputable def f_Re_searched_5 (w : World) (x1 : Int) (x2 : Int) (x3 : Int) (x4 : Int) : Option Int :=
  lp (fun z : (Int × Int) => f_Re_searched_5B w x1 x2 z.1 z.2) (x3, x4)
noncomputable def f_Re_searched (w : World) (x1 : Int) (x2 : Int) : Option Int :=
  f_Re_searched_5 w x1 x2 0 0
noncomputable def f_Re_bits (x0 : Int) : Option Int :=
  some (wr ((wr ((iand x0 1) + (iand (ishr x0 1) 1))) + (iand (ishr x0 2) 1)))
noncomputable def f_Re_makePlan_227 (w : World) (x1 : Int) (x2 : Int) (x6 : Int) (x7 : Int) (s0 : Int) (s1 : Int) : Option ((Int × Int) ⊕ ((World × Int × Int) ⊕ World)) :=
  bl (ior s0 s1) fun n1 => bl (wr (x7 + 1)) fun n2 => some (Sum.inl (n1, n2))
noncomputable def f_Re_makePlan_174B (w : World) (x1 : Int) (x2 : Int) (x3 : Int) (x6 : Int) (x7 : Int) : Option ((Int × Int) ⊕ ((World × Int × Int) ⊕ World)) :=
  gd (0 ≤ x6 ∧ x6 < 95) (gd (0 ≤ w 18 x6.toNat ∧ w 18 x6.toNat < 10) (if (w 3 (w 18 x6.toNat).toNat) ≤ x7 then (some (Sum.inr (Sum.inl (w, x2, x3)))) else (gd (0 ≤ wr ((wr (3 * x6)) + x7) ∧ wr ((wr (3 * x6)) + x7) < 285) (if 0 ≤ (w 19 (wr ((wr (3 * x6)) + x7)).toNat) then (f_Re_makePlan_227 w x1 x2 x6 x7 x3 0) else (gd (0 ≤ wr ((wr (3 * x6)) + x7) ∧ wr ((wr (3 * x6)) + x7) < 285) (f_Re_makePlan_227 w x1 x2 x6 x7 x3 (ishl 1 (wr ((-1) - (w 19 (wr ((wr (3 * x6)) + x7)).toNat))))))))))
noncomputable def f_Re_makePlan_174 (w : World) (x1 : Int) (x2 : Int) (x3 : Int) (x6 : Int) (x7 : Int) : Option ((World × Int × Int) ⊕ World) :=
  lp (fun z : (Int × Int) => f_Re_makePlan_174B w x1 x2 z.1 x6 z.2) (x3, x7)
noncomputable def f_Re_makePlan_118 (w : World) (x1 : Int) (x2 : Int) (x3 : Int) (x4 : Int) (x5 : Int) (x6 : Int) : Option ((Int × Int × Int) ⊕ ((World × Int × Int) ⊕ World)) :=
  bl (wr (x6 + 1)) fun n1 => some (Sum.inl (x4, x5, n1))
noncomputable def f_Re_makePlan_110 (w : World) (x1 : Int) (x2 : Int) (x3 : Int) (x6 : Int) (x8 : Int) : Option ((Int × Int × Int) ⊕ ((World × Int × Int) ⊕ World)) :=
  f_Re_makePlan_118 w x1 x2 x3 x6 x8 x6
noncomputable def f_Re_makePlan_70 (w : World) (x1 : Int) (x2 : Int) (x3 : Int) (x4 : Int) (x5 : Int) (x6 : Int) (x7 : Int) (s0 : Int) : Option ((Int × Int × Int) ⊕ ((World × Int × Int) ⊕ World)) :=
  gd (0 ≤ x7 ∧ x7 < 95) (if (w 17 x7.toNat) = 0 then (if (iand (ishr x2 x6) 1) = 0 then (if x4 = (-1) then (f_Re_makePlan_110 w x1 x2 x3 x6 s0) else (bnd (f_Re_bits s0) fun v10 => bnd (f_Re_bits x5) fun v13 => if v10 ≤ v13 then (f_Re_makePlan_118 w x1 x2 x3 x4 x5 x6) else (f_Re_makePlan_110 w x1 x2 x3 x6 s0))) else (f_Re_makePlan_118 w x1 x2 x3 x4 x5 x6)) else (f_Re_makePlan_118 w x1 x2 x3 x4 x5 x6))
noncomputable def f_Re_makePlan_30B (w : World) (x1 : Int) (x2 : Int) (x3 : Int) (x4 : Int) (x5 : Int) (x6 : Int) : Option ((Int × Int × Int) ⊕ ((World × Int × Int) ⊕ World)) :=
  gd (0 ≤ x1 ∧ x1 < 19) (if (w 16 x1.toNat) ≤ x6 then (gd (0 ≤ w 1 35 ∧ w 1 35 < 5) (bl (up w 29 (w 1 35).toNat x4) fun w7 => gd (0 ≤ w7 1 35 ∧ w7 1 35 < 5) (bl (up w7 30 (w7 1 35).toNat x5) fun w10 => bl (up w10 1 35 (wr ((w10 1 35) + 1))) fun w12 => bl (ior x2 (ishl 1 x4)) fun n13 => bl (wr ((wr (5 * x1)) + x4)) fun n14 => bnd (f_Re_makePlan_174 w12 x1 n13 x3 n14 0) fun y15 => some (Sum.inr y15)))) else (bl (wr ((wr (5 * x1)) + x6)) fun n16 => gd (0 ≤ n16 ∧ n16 < 95) (if (w 17 n16.toNat) = 0 then (bnd (f_Re_searched w n16 x3) fun v22 => f_Re_makePlan_70 w x1 x2 x3 x4 x5 x6 n16 v22) else (f_Re_makePlan_70 w x1 x2 x3 x4 x5 x6 n16 0))))
noncomputable def f_Re_makePlan_30 (w : World) (x1 : Int) (x2 : Int) (x3 : Int) (x4 : Int) (x5 : Int) (x6 : Int) : Option ((World × Int × Int) ⊕ World) :=
  lp (fun z : (Int × Int × Int) => f_Re_makePlan_30B w x1 x2 x3 z.1 z.2.1 z.2.2) (x4, x5, x6)
noncomputable def f_Re_makePlan_9B (w : World) (x1 : Int) (x2 : Int) (x3 : Int) : Option ((World × Int × Int) ⊕ World) :=
  bnd (f_Re_atomsOf w x1) fun v3 => if v3 ≤ (w 1 35) then (some (Sum.inr w)) else (f_Re_makePlan_30 w x1 x2 x3 (-1) 0 0)
noncomputable def f_Re_makePlan_9 (w : World) (x1 : Int) (x2 : Int) (x3 : Int) : Option World :=
  lp (fun z : (World × Int × Int) => f_Re_makePlan_9B z.1 x1 z.2.1 z.2.2) (w, x2, x3)
noncomputable def f_Re_makePlan (w : World) (x1 : Int) : Option World :=
  bl (up w 1 35 0) fun w1 => f_Re_makePlan_9 w1 x1 0 0
noncomputable def f_Re_order_34 (w : World) (x1 : Int) (x2 : Int) (s1 : Int) : Option (World × Int) :=
  bnd (f_Re_refused w s1) fun v2 => if v2.2 = 0 then (bnd (f_Re_makePlan v2.1 x1) fun v7 => if (v7 1 35) ≤ x2 then (some (v7, (-1))) else (gd (0 ≤ x2 ∧ x2 < 5) (some (v7, v7 29 x2.toNat)))) else (some (v2.1, 0))
noncomputable def f_Re_order_23 (w : World) (x1 : Int) (x2 : Int) (s0 : Int) : Option (World × Int) :=
  if s0 = 0 then (f_Re_order_34 w x1 x2 1) else (f_Re_order_34 w x1 x2 0)
noncomputable def f_Re_order_22 (w : World) (x1 : Int) (x2 : Int) : Option (World × Int) :=
  f_Re_order_23 w x1 x2 0
noncomputable def f_Re_order (w : World) (x1 : Int) (x2 : Int) : Option (World × Int) :=
  bnd (f_Re_in x1 0 (wr ((w 1 14) - 1))) fun v3 => if v3 = 0 then (f_Re_order_22 w x1 x2) else (if x2 < 0 then (f_Re_order_22 w x1 x2) else (f_Re_order_23 w x1 x2 1))
noncomputable def f_Re_areKeyed_131 (w : World) (x1 : Int) (x2 : Int) (x4 : Int) (s0 : Int) : Option ((Int × Int) ⊕ Int) :=
  bl (wr (x4 + 1)) fun n1 => some (Sum.inl (s0, n1))
noncomputable def f_Re_areKeyed_81B (w : World) (x1 : Int) (x2 : Int) (x3 : Int) (x4 : Int) : Option ((Int × Int) ⊕ Int) :=
  if x3 = 0 then (gd (x3 = 0 ∨ x3 = 1) (some (Sum.inr x3))) else (gd (0 ≤ x1 ∧ x1 < 95) (gd (0 ≤ w 18 x1.toNat ∧ w 18 x1.toNat < 10) (if (w 5 (w 18 x1.toNat).toNat) ≤ x4 then (gd (x3 = 0 ∨ x3 = 1) (some (Sum.inr x3))) else (gd (0 ≤ wr ((wr (3 * x1)) + x4) ∧ wr ((wr (3 * x1)) + x4) < 285) (gd (0 ≤ wr ((wr (3 * x2)) + x4) ∧ wr ((wr (3 * x2)) + x4) < 285) (if (w 19 (wr ((wr (3 * x1)) + x4)).toNat) = (w 19 (wr ((wr (3 * x2)) + x4)).toNat) then (f_Re_areKeyed_131 w x1 x2 x4 1) else (f_Re_areKeyed_131 w x1 x2 x4 0)))))))
noncomputable def f_Re_areKeyed_81 (w : World) (x1 : Int) (x2 : Int) (x3 : Int) (x4 : Int) : Option Int :=
  lp (fun z : (Int × Int) => f_Re_areKeyed_81B w x1 x2 z.1 z.2) (x3, x4)
noncomputable def f_Re_areKeyed_77 (w : World) (x1 : Int) (x2 : Int) (s0 : Int) : Option Int :=
  f_Re_areKeyed_81 w x1 x2 s0 0
noncomputable def f_Re_areKeyed_76 (w : World) (x1 : Int) (x2 : Int) : Option Int :=
  f_Re_areKeyed_77 w x1 x2 0
noncomputable def f_Re_areKeyed (w : World) (x1 : Int) (x2 : Int) : Option Int :=
  gd (0 ≤ x1 ∧ x1 < 95) (if (w 17 x1.toNat) = 0 then (gd (0 ≤ x2 ∧ x2 < 95) (if (w 17 x2.toNat) = 0 then (gd (0 ≤ x1 ∧ x1 < 95) (gd (0 ≤ x2 ∧ x2 < 95) (if (w 18 x1.toNat) = (w 18 x2.toNat) then (gd (0 ≤ x1 ∧ x1 < 95) (gd (0 ≤ w 18 x1.toNat ∧ w 18 x1.toNat < 10) (if (w 4 (w 18 x1.toNat).toNat) = 0 then (gd (0 ≤ x1 ∧ x1 < 95) (gd (0 ≤ w 18 x1.toNat ∧ w 18 x1.toNat < 10) (gd (0 ≤ x1 ∧ x1 < 95) (gd (0 ≤ w 18 x1.toNat ∧ w 18 x1.toNat < 10) (if (w 3 (w 18 x1.toNat).toNat) ≤ (w 5 (w 18 x1.toNat).toNat) then (f_Re_areKeyed_76 w x1 x2) else (f_Re_areKeyed_77 w x1 x2 1)))))) else (f_Re_areKeyed_76 w x1 x2)))) else (f_Re_areKeyed_76 w x1 x2)))) else (f_Re_areKeyed_76 w x1 x2))) else (f_Re_areKeyed_76 w x1 x2))
noncomputable def f_Re_joins_110 (w : World) (x1 : Int) (x3 : Int) (s0 : Int) (s1 : Int) : Option ((Int × Int) ⊕ (World × Int)) :=
  bl (wr (s0 + s1)) fun n1 => bl (wr (x3 + 1)) fun n2 => some (Sum.inl (n1, n2))
noncomputable def f_Re_joins_109 (w : World) (x1 : Int) (x3 : Int) (s0 : Int) : Option ((Int × Int) ⊕ (World × Int)) :=
  f_Re_joins_110 w x1 x3 s0 0
noncomputable def f_Re_joins_82 (w : World) (x1 : Int) (x2 : Int) (x3 : Int) (x5 : Int) (s0 : Int) : Option ((Int × Int) ⊕ ((Int × Int) ⊕ (World × Int))) :=
  bl (wr (x5 + 1)) fun n1 => some (Sum.inl (s0, n1))
noncomputable def f_Re_joins_77 (w : World) (x1 : Int) (x2 : Int) (x3 : Int) (x5 : Int) : Option ((Int × Int) ⊕ ((Int × Int) ⊕ (World × Int))) :=
  f_Re_joins_82 w x1 x2 x3 x5 1
noncomputable def f_Re_joins_56B (w : World) (x1 : Int) (x2 : Int) (x3 : Int) (x4 : Int) (x5 : Int) : Option ((Int × Int) ⊕ ((Int × Int) ⊕ (World × Int))) :=
  if x3 ≤ x5 then (gd (0 ≤ x3 ∧ x3 < 95) (if (w 17 x3.toNat) = 0 then (if x4 = 0 then (bnd (f_Re_joins_110 w x1 x3 x2 1) fun y11 => some (Sum.inr y11)) else (bnd (f_Re_joins_109 w x1 x3 x2) fun y10 => some (Sum.inr y10))) else (bnd (f_Re_joins_109 w x1 x3 x2) fun y7 => some (Sum.inr y7)))) else (if x4 = 0 then (bnd (f_Re_areKeyed w x5 x3) fun v15 => if v15 = 0 then (f_Re_joins_82 w x1 x2 x3 x5 0) else (f_Re_joins_77 w x1 x2 x3 x5)) else (f_Re_joins_77 w x1 x2 x3 x5))
noncomputable def f_Re_joins_56 (w : World) (x1 : Int) (x2 : Int) (x3 : Int) (x4 : Int) (x5 : Int) : Option ((Int × Int) ⊕ (World × Int)) :=
  lp (fun z : (Int × Int) => f_Re_joins_56B w x1 x2 x3 z.1 z.2) (x4, x5)
noncomputable def f_Re_joins_34B (w : World) (x1 : Int) (x2 : Int) (x3 : Int) : Option ((Int × Int) ⊕ (World × Int)) :=
  gd (0 ≤ x1 ∧ x1 < 19) (if (wr ((wr (5 * x1)) + (w 16 x1.toNat))) ≤ x3 then (some (Sum.inr (w, x2))) else (bl (wr (5 * x1)) fun n5 => f_Re_joins_56 w x1 x2 x3 0 n5))
noncomputable def f_Re_joins_34 (w : World) (x1 : Int) (x2 : Int) (x3 : Int) : Option (World × Int) :=
  lp (fun z : (Int × Int) => f_Re_joins_34B w x1 z.1 z.2) (x2, x3)
noncomputable def f_Re_joins_20 (w : World) (x1 : Int) (s1 : Int) : Option (World × Int) :=
  bnd (f_Re_refused w s1) fun v2 => if v2.2 = 0 then (bl (wr (5 * x1)) fun n6 => f_Re_joins_34 v2.1 x1 0 n6) else (some (v2.1, 0))
noncomputable def f_Re_joins (w : World) (x1 : Int) : Option (World × Int) :=
  bnd (f_Re_in x1 0 (wr ((w 1 14) - 1))) fun v3 => if v3 = 0 then (f_Re_joins_20 w x1 1) else (f_Re_joins_20 w x1 0)
noncomputable def f_Re_served_32 (x1 : Int) (s0 : Int) : Option Int :=
  some (ior (ior (ishl 1 (ishl 1 x1)) (ishl 1 (ior (ishl 1 x1) (ishl 1 s0)))) 128)
noncomputable def f_Re_served (x0 : Int) : Option Int :=
  bl (idiv x0 2) fun n1 => if (irem x0 2) = 0 then (if n1 = 0 then (f_Re_served_32 n1 1) else (f_Re_served_32 n1 0)) else (if n1 = 2 then (f_Re_served_32 n1 1) else (f_Re_served_32 n1 2))
noncomputable def f_Re_indexes_214 (w : World) (x2 : Int) (x4 : Int) (s0 : Int) : Option ((Int × Int) ⊕ (World × Int)) :=
  bl (wr (x4 + 1)) fun n1 => some (Sum.inl (s0, n1))
noncomputable def f_Re_indexes_213 (w : World) (x2 : Int) (x3 : Int) (x4 : Int) : Option ((Int × Int) ⊕ (World × Int)) :=
  f_Re_indexes_214 w x2 x4 x3
noncomputable def f_Re_indexes_184 (w : World) (x2 : Int) (x3 : Int) (x4 : Int) (x5 : Int) (x7 : Int) (s0 : Int) (s1 : Int) : Option ((Int × Int × Int) ⊕ ((Int × Int) ⊕ (World × Int))) :=
  bl (wr (s0 + s1)) fun n1 => bl (wr (x7 + 1)) fun n2 => some (Sum.inl (x5, n1, n2))
noncomputable def f_Re_indexes_169 (w : World) (x2 : Int) (x3 : Int) (x4 : Int) (x6 : Int) (x7 : Int) (x8 : Int) (s0 : Int) (s1 : Int) : Option ((Int × Int × Int) ⊕ ((Int × Int) ⊕ (World × Int))) :=
  bl (ior s0 s1) fun n1 => if x8 = 0 then (f_Re_indexes_184 w x2 x3 x4 n1 x7 x6 0) else (f_Re_indexes_184 w x2 x3 x4 n1 x7 x6 1)
noncomputable def f_Re_indexes_151 (w : World) (x2 : Int) (x3 : Int) (x4 : Int) (x5 : Int) (x6 : Int) (x7 : Int) (s0 : Int) : Option ((Int × Int × Int) ⊕ ((Int × Int) ⊕ (World × Int))) :=
  if s0 = 0 then (f_Re_indexes_169 w x2 x3 x4 x6 x7 s0 x5 0) else (bnd (f_Re_served x7) fun v4 => f_Re_indexes_169 w x2 x3 x4 x6 x7 s0 x5 v4)
noncomputable def f_Re_indexes_128B (w : World) (x2 : Int) (x3 : Int) (x4 : Int) (x5 : Int) (x6 : Int) (x7 : Int) : Option ((Int × Int × Int) ⊕ ((Int × Int) ⊕ (World × Int))) :=
  if 6 ≤ x7 then (if (iand x2 (ixor x5 (-1))) = 0 then (if x3 ≤ x6 then (bnd (f_Re_indexes_213 w x2 x3 x4) fun y8 => some (Sum.inr y8)) else (bnd (f_Re_indexes_214 w x2 x4 x6) fun y9 => some (Sum.inr y9))) else (bnd (f_Re_indexes_213 w x2 x3 x4) fun y5 => some (Sum.inr y5))) else (if (iand (ishr x4 x7) 1) = 1 then (f_Re_indexes_151 w x2 x3 x4 x5 x6 x7 1) else (f_Re_indexes_151 w x2 x3 x4 x5 x6 x7 0))
noncomputable def f_Re_indexes_128 (w : World) (x2 : Int) (x3 : Int) (x4 : Int) (x5 : Int) (x6 : Int) (x7 : Int) : Option ((Int × Int) ⊕ (World × Int)) :=
  lp (fun z : (Int × Int × Int) => f_Re_indexes_128B w x2 x3 x4 z.1 z.2.1 z.2.2) (x5, x6, x7)
noncomputable def f_Re_indexes_112B (w : World) (x2 : Int) (x3 : Int) (x4 : Int) : Option ((Int × Int) ⊕ (World × Int)) :=
  if 64 ≤ x4 then (some (Sum.inr (w, x3))) else (f_Re_indexes_128 w x2 x3 x4 0 0 0)
noncomputable def f_Re_indexes_112 (w : World) (x2 : Int) (x3 : Int) (x4 : Int) : Option (World × Int) :=
  lp (fun z : (Int × Int) => f_Re_indexes_112B w x2 z.1 z.2) (x3, x4)
noncomputable def f_Re_indexes_100 (w : World) (x1 : Int) (x2 : Int) (x3 : Int) : Option ((World × Int × Int) ⊕ (World × Int)) :=
  bl (wr (x3 + 1)) fun n1 => some (Sum.inl (w, x2, n1))
noncomputable def f_Re_indexes_92 (w : World) (x1 : Int) (x3 : Int) (x4 : Int) (s0 : Int) (s1 : Int) : Option ((Int × Int) ⊕ ((World × Int × Int) ⊕ (World × Int))) :=
  bl (ior s0 s1) fun n1 => bl (wr (x4 + 1)) fun n2 => some (Sum.inl (n1, n2))
noncomputable def f_Re_indexes_91 (w : World) (x1 : Int) (x3 : Int) (x4 : Int) (s0 : Int) : Option ((Int × Int) ⊕ ((World × Int × Int) ⊕ (World × Int))) :=
  f_Re_indexes_92 w x1 x3 x4 s0 0
noncomputable def f_Re_indexes_39B (w : World) (x1 : Int) (x2 : Int) (x3 : Int) (x4 : Int) : Option ((Int × Int) ⊕ ((World × Int × Int) ⊕ (World × Int))) :=
  if (w 1 35) ≤ x4 then (bnd (f_Re_indexes_100 w x1 x2 x3) fun y4 => some (Sum.inr y4)) else (gd (0 ≤ x4 ∧ x4 < 5) (gd (0 ≤ wr ((wr (5 * x3)) + (w 29 x4.toNat)) ∧ wr ((wr (5 * x3)) + (w 29 x4.toNat)) < 95) (if (w 18 (wr ((wr (5 * x3)) + (w 29 x4.toNat))).toNat) = x1 then (gd (0 ≤ x4 ∧ x4 < 5) (if (w 30 x4.toNat) = 0 then (f_Re_indexes_91 w x1 x3 x4 x2) else (gd (0 ≤ x4 ∧ x4 < 5) (f_Re_indexes_92 w x1 x3 x4 x2 (ishl 1 (w 30 x4.toNat)))))) else (f_Re_indexes_91 w x1 x3 x4 x2))))
noncomputable def f_Re_indexes_39 (w : World) (x1 : Int) (x2 : Int) (x3 : Int) (x4 : Int) : Option ((World × Int × Int) ⊕ (World × Int)) :=
  lp (fun z : (Int × Int) => f_Re_indexes_39B w x1 z.1 x3 z.2) (x2, x4)
noncomputable def f_Re_indexes_14B (w : World) (x1 : Int) (x2 : Int) (x3 : Int) : Option ((World × Int × Int) ⊕ (World × Int)) :=
  if (w 1 14) ≤ x3 then (bnd (f_Re_indexes_112 w x2 6 0) fun y4 => some (Sum.inr y4)) else (gd (0 ≤ x3 ∧ x3 < 12) (if (w 13 x3.toNat) = 0 then (bnd (f_Re_makePlan w x3) fun v10 => f_Re_indexes_39 v10 x1 x2 x3 0) else (f_Re_indexes_100 w x1 x2 x3)))
noncomputable def f_Re_indexes_14 (w : World) (x1 : Int) (x2 : Int) (x3 : Int) : Option (World × Int) :=
  lp (fun z : (World × Int × Int) => f_Re_indexes_14B z.1 x1 z.2.1 z.2.2) (w, x2, x3)
noncomputable def f_Re_indexes (w : World) (x1 : Int) : Option (World × Int) :=
  bnd (f_Re_noRelation w x1) fun v2 => if v2.2 = 0 then (f_Re_indexes_14 v2.1 x1 0 0) else (some (v2.1, 0))
