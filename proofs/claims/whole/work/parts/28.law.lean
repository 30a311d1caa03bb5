/-- the four ints behind the place i of the script -/
def PA (xs : Nat → Int32) (Ls : Nat) (i p1 p2 p3 p4 : Int32) : Prop := (vp_in (i + 1) Ls ∧ xs (i + 1).toNatClampNeg = p1) ∧ (vp_in (i + 2) Ls ∧ xs (i + 2).toNatClampNeg = p2) ∧ (vp_in (i + 3) Ls ∧ xs (i + 3).toNatClampNeg = p3) ∧ (vp_in (i + 4) Ls ∧ xs (i + 4).toNatClampNeg = p4)
noncomputable def fLaw_c0 (σC σR : St) (v : Int64) (p1 p2 p3 p4 : Int32) : Option LL :=
  (fL_node σC v p1 p2).bind fun z1 =>
  (fX11_node σR p1 p2).bind fun z2 =>
  (fX11_thrown z2.2).bind fun z3 =>
  if z3 = z1.1 then if z1.1 = 0 then if (lg_cmp z1.2.2 z2.1.toInt64) = 0 then some (z1.2.1, z2.2, z1.2.2) else none else some (z1.2.1, z2.2, z1.2.2) else none
noncomputable def fLaw_c1 (σC σR : St) (v : Int64) (p1 p2 p3 p4 : Int32) : Option LL :=
  (fL_edge σC v p1 p2 p3).bind fun z1 =>
  (fX11_edge σR p1 p2 p3).bind fun z2 =>
  (fX11_thrown z2.2).bind fun z3 =>
  if z3 = z1.1 then if z1.1 = 0 then if (lg_cmp z1.2.2 z2.1.toInt64) = 0 then some (z1.2.1, z2.2, z1.2.2) else none else some (z1.2.1, z2.2, z1.2.2) else none
noncomputable def fLaw_c2 (σC σR : St) (v : Int64) (p1 p2 p3 p4 : Int32) : Option LL :=
  (fL_set σC v p1 p2).bind fun z1 =>
  (fX11_set σR p1 p2).bind fun z2 =>
  (fX11_thrown z2.2).bind fun z3 =>
  if z3 = z1.1 then if z1.1 = 0 then if (lg_cmp z1.2.2 z2.1.toInt64) = 0 then some (z1.2.1, z2.2, z1.2.2) else none else some (z1.2.1, z2.2, z1.2.2) else none
noncomputable def fLaw_c3 (σC σR : St) (v : Int64) (p1 p2 p3 p4 : Int32) : Option LL :=
  (fL_dropEdge σC v p1).bind fun z1 =>
  (fX11_dropEdge σR p1).bind fun z2 =>
  (fX11_thrown z2.2).bind fun z3 =>
  if z3 = z1.1 then if z1.1 = 0 then if (lg_cmp z1.2.2 z2.1.toInt64) = 0 then some (z1.2.1, z2.2, z1.2.2) else none else some (z1.2.1, z2.2, z1.2.2) else none
noncomputable def fLaw_c4 (σC σR : St) (v : Int64) (p1 p2 p3 p4 : Int32) : Option LL :=
  (fL_dropNode σC v p1).bind fun z1 =>
  (fX11_dropNode σR p1).bind fun z2 =>
  (fX11_thrown z2.2).bind fun z3 =>
  if z3 = z1.1 then if z1.1 = 0 then if (lg_cmp z1.2.2 z2.1.toInt64) = 0 then some (z1.2.1, z2.2, z1.2.2) else none else some (z1.2.1, z2.2, z1.2.2) else none
noncomputable def fLaw_c5 (σC σR : St) (v : Int64) (p1 p2 p3 p4 : Int32) : Option LL :=
  (fL_key σC v p1).bind fun z1 =>
  (fX11_key σR p1).bind fun z2 =>
  (fX11_thrown z2.2).bind fun z3 =>
  if z3 = z1.1 then if z1.1 = 0 then if z2.1 = 0 then if (lg_cmp z1.2.2 (0 : Int64)) = 0 then some (z1.2.1, z2.2, z1.2.2) else none else if (lg_cmp z1.2.2 (1 : Int64)) = 0 then some (z1.2.1, z2.2, z1.2.2) else none else some (z1.2.1, z2.2, z1.2.2) else none
noncomputable def fLaw_c6 (σC σR : St) (v : Int64) (p1 p2 p3 p4 : Int32) : Option LL :=
  (fL_shape σC v p1 p2 p3).bind fun z1 =>
  (fX11_shape σR p1 p2 p3).bind fun z2 =>
  (fX11_thrown z2).bind fun z3 =>
  if z3 = z1.1 then some (z1.2.1, z2, z1.2.2) else none
noncomputable def fLaw_c7 (σC σR : St) (v : Int64) (p1 p2 p3 p4 : Int32) : Option LL :=
  (fL_move σC v p1 p2).bind fun z1 =>
  (fX11_move σR p1 p2).bind fun z2 =>
  (fX11_thrown z2.2).bind fun z3 =>
  if z3 = z1.1 then if z1.1 = 0 then if (lg_cmp z1.2.2 z2.1.toInt64) = 0 then some (z1.2.1, z2.2, z1.2.2) else none else some (z1.2.1, z2.2, z1.2.2) else none
noncomputable def fLaw_c8 (σC σR : St) (v : Int64) (p1 p2 p3 p4 : Int32) : Option LL :=
  (fX10_shift σC).bind fun z1 =>
  (fX11_shift σR).bind fun z2 =>
  if z1.1 = z2.1 then some (z1.2, z2.2, v) else none
noncomputable def fLaw_c9 (σC σR : St) (v : Int64) (p1 p2 p3 p4 : Int32) : Option LL :=
  (fL_toggle σC v p1).bind fun z1 =>
  (fX11_toggle σR p1).bind fun z2 =>
  (fX11_thrown z2.2).bind fun z3 =>
  if z3 = z1.1 then if z1.1 = 0 then if z2.1 = 0 then if (lg_cmp z1.2.2 (0 : Int64)) = 0 then some (z1.2.1, z2.2, z1.2.2) else none else if (lg_cmp z1.2.2 (1 : Int64)) = 0 then some (z1.2.1, z2.2, z1.2.2) else none else some (z1.2.1, z2.2, z1.2.2) else none
noncomputable def fLaw_c10 (σC σR : St) (v : Int64) (p1 p2 p3 p4 : Int32) : Option LL :=
  (fL_machine σC v p1).bind fun z1 =>
  (fX11_machine σR p1).bind fun z2 =>
  (fX11_thrown z2.2).bind fun z3 =>
  if z3 = z1.1 then if z1.1 = 0 then if (lg_cmp z1.2.2 z2.1.toInt64) = 0 then some (z1.2.1, z2.2, z1.2.2) else none else some (z1.2.1, z2.2, z1.2.2) else none
noncomputable def fLaw_c11 (σC σR : St) (v : Int64) (p1 p2 p3 p4 : Int32) : Option LL :=
  (fX10_cut σC).bind fun z1 =>
  (fX11_cut σR).bind fun z2 =>
  if z1 = z2.1 then some (σC, z2.2, v) else none
noncomputable def fLaw_c12 (σC σR : St) (v : Int64) (p1 p2 p3 p4 : Int32) : Option LL :=
  (fL_copies σC v p1).bind fun z1 =>
  (fX11_copies σR p1).bind fun z2 =>
  (fX11_thrown z2.2).bind fun z3 =>
  if z3 = z1.1 then if z1.1 = 0 then if (lg_cmp z1.2.2 z2.1.toInt64) = 0 then some (z1.2.1, z2.2, z1.2.2) else none else some (z1.2.1, z2.2, z1.2.2) else none
noncomputable def fLaw_c13 (σC σR : St) (v : Int64) (p1 p2 p3 p4 : Int32) : Option LL :=
  (fL_begin σC v).bind fun z1 =>
  (fX11_begin σR).bind fun z2 =>
  (fX11_thrown z2.2).bind fun z3 =>
  if z3 = z1.1 then if z1.1 = 0 then if (lg_cmp z1.2.2 z2.1.toInt64) = 0 then some (z1.2.1, z2.2, z1.2.2) else none else some (z1.2.1, z2.2, z1.2.2) else none
noncomputable def fLaw_c14 (σC σR : St) (v : Int64) (p1 p2 p3 p4 : Int32) : Option LL :=
  (fL_write σC v p1 p2 p3).bind fun z1 =>
  (fX11_write σR p1 p2 p3).bind fun z2 =>
  (fX11_thrown z2).bind fun z3 =>
  if z3 = z1.1 then some (z1.2.1, z2, z1.2.2) else none
noncomputable def fLaw_c15 (σC σR : St) (v : Int64) (p1 p2 p3 p4 : Int32) : Option LL :=
  (fL_link σC v p1 p2 p3 p4).bind fun z1 =>
  (fX11_link σR p1 p2 p3 p4).bind fun z2 =>
  (fX11_thrown z2.2).bind fun z3 =>
  if z3 = z1.1 then if z1.1 = 0 then if (lg_cmp z1.2.2 z2.1.toInt64) = 0 then some (z1.2.1, z2.2, z1.2.2) else none else some (z1.2.1, z2.2, z1.2.2) else none
noncomputable def fLaw_c16 (σC σR : St) (v : Int64) (p1 p2 p3 p4 : Int32) : Option LL :=
  (fL_unlink σC v p1 p2).bind fun z1 =>
  (fX11_unlink σR p1 p2).bind fun z2 =>
  (fX11_thrown z2).bind fun z3 =>
  if z3 = z1.1 then some (z1.2.1, z2, z1.2.2) else none
noncomputable def fLaw_c17 (σC σR : St) (v : Int64) (p1 p2 p3 p4 : Int32) : Option LL :=
  (fL_read σC v p1 p2).bind fun z1 =>
  (fX11_read σR p1 p2).bind fun z2 =>
  (fX11_thrown z2.2).bind fun z3 =>
  if z3 = z1.1 then if z1.1 = 0 then if (lg_cmp z1.2.2 z2.1.toInt64) = 0 then some (z1.2.1, z2.2, z1.2.2) else none else some (z1.2.1, z2.2, z1.2.2) else none
noncomputable def fLaw_c18 (σC σR : St) (v : Int64) (p1 p2 p3 p4 : Int32) : Option LL :=
  (fL_sees σC v p1 p2).bind fun z1 =>
  (fX11_sees σR p1 p2).bind fun z2 =>
  (fX11_thrown z2.2).bind fun z3 =>
  if z3 = z1.1 then if z1.1 = 0 then if (lg_cmp z1.2.2 z2.1.toInt64) = 0 then some (z1.2.1, z2.2, z1.2.2) else none else some (z1.2.1, z2.2, z1.2.2) else none
noncomputable def fLaw_c19 (σC σR : St) (v : Int64) (p1 p2 p3 p4 : Int32) : Option LL :=
  if p2 = 0 then (fL_commit σC v p1 (0 : Int32)).bind fun z2 =>
  (fX11_commit σR p1 (0 : Int32)).bind fun z3 =>
  (fX11_thrown z3.2).bind fun z4 =>
  if z4 = z2.1 then if z2.1 = 0 then if (lg_cmp z2.2.2 z3.1.toInt64) = 0 then some (z2.2.1, z3.2, z2.2.2) else none else some (z2.2.1, z3.2, z2.2.2) else none else (fL_commit σC v p1 (1 : Int32)).bind fun z8 =>
  (fX11_commit σR p1 (1 : Int32)).bind fun z9 =>
  (fX11_thrown z9.2).bind fun z10 =>
  if z10 = z8.1 then if z8.1 = 0 then if (lg_cmp z8.2.2 z9.1.toInt64) = 0 then some (z8.2.1, z9.2, z8.2.2) else none else some (z8.2.1, z9.2, z8.2.2) else none
noncomputable def fLaw_c20 (σC σR : St) (v : Int64) (p1 p2 p3 p4 : Int32) : Option LL :=
  (fX10_time σC).bind fun z1 =>
  (fX11_time σR).bind fun z2 =>
  if z1 = z2.1 then some (σC, z2.2, v) else none
noncomputable def fLaw_c21 (σC σR : St) (v : Int64) (p1 p2 p3 p4 : Int32) : Option LL :=
  (fL_valueAt σC v p1 p2).bind fun z1 =>
  (fX11_valueAt σR p1 p2).bind fun z2 =>
  (fX11_thrown z2.2).bind fun z3 =>
  if z3 = z1.1 then if z1.1 = 0 then if (lg_cmp z1.2.2 z2.1.toInt64) = 0 then some (z1.2.1, z2.2, z1.2.2) else none else some (z1.2.1, z2.2, z1.2.2) else none
noncomputable def fLaw_c22 (σC σR : St) (v : Int64) (p1 p2 p3 p4 : Int32) : Option LL :=
  (fL_sizeAt σC v p1).bind fun z1 =>
  (fX11_sizeAt σR p1).bind fun z2 =>
  (fX11_thrown z2.2).bind fun z3 =>
  if z3 = z1.1 then if z1.1 = 0 then if (lg_cmp z1.2.2 z2.1.toInt64) = 0 then some (z1.2.1, z2.2, z1.2.2) else none else some (z1.2.1, z2.2, z1.2.2) else none
noncomputable def fLaw_c23 (σC σR : St) (v : Int64) (p1 p2 p3 p4 : Int32) : Option LL :=
  (fL_step σC v p1 p2).bind fun z1 =>
  (fX11_step σR p1 p2).bind fun z2 =>
  (fX11_thrown z2.2).bind fun z3 =>
  if z3 = z1.1 then if z1.1 = 0 then if (lg_cmp z1.2.2 z2.1.toInt64) = 0 then some (z1.2.1, z2.2, z1.2.2) else none else some (z1.2.1, z2.2, z1.2.2) else none
noncomputable def fLaw_c24 (σC σR : St) (v : Int64) (p1 p2 p3 p4 : Int32) : Option LL :=
  (fL_pattern σC v).bind fun z1 =>
  (fX11_pattern σR).bind fun z2 =>
  (fX11_thrown z2.2).bind fun z3 =>
  if z3 = z1.1 then if z1.1 = 0 then if (lg_cmp z1.2.2 z2.1.toInt64) = 0 then some (z1.2.1, z2.2, z1.2.2) else none else some (z1.2.1, z2.2, z1.2.2) else none
noncomputable def fLaw_c25 (σC σR : St) (v : Int64) (p1 p2 p3 p4 : Int32) : Option LL :=
  (fL_answer σC v p1 p2).bind fun z1 =>
  (fX11_answer σR p1 p2).bind fun z2 =>
  (fX11_thrown z2.2).bind fun z3 =>
  if z3 = z1.1 then if z1.1 = 0 then if (lg_cmp z1.2.2 z2.1.toInt64) = 0 then some (z1.2.1, z2.2, z1.2.2) else none else some (z1.2.1, z2.2, z1.2.2) else none
noncomputable def fLaw_c26 (σC σR : St) (v : Int64) (p1 p2 p3 p4 : Int32) : Option LL :=
  (fL_answerAnew σC v p1 p2).bind fun z1 =>
  (fX11_answerAnew σR p1 p2).bind fun z2 =>
  (fX11_thrown z2.2).bind fun z3 =>
  if z3 = z1.1 then if z1.1 = 0 then if (lg_cmp z1.2.2 z2.1.toInt64) = 0 then some (z1.2.1, z2.2, z1.2.2) else none else some (z1.2.1, z2.2, z1.2.2) else none
noncomputable def fLaw_c27 (σC σR : St) (v : Int64) (p1 p2 p3 p4 : Int32) : Option LL :=
  (fL_pairs σC v p1).bind fun z1 =>
  (fX11_pairs σR p1).bind fun z2 =>
  (fX11_thrown z2.2).bind fun z3 =>
  if z3 = z1.1 then if z1.1 = 0 then if (lg_cmp z1.2.2 z2.1.toInt64) = 0 then some (z1.2.1, z2.2, z1.2.2) else none else some (z1.2.1, z2.2, z1.2.2) else none
noncomputable def fLaw_c28 (σC σR : St) (v : Int64) (p1 p2 p3 p4 : Int32) : Option LL :=
  (fL_isWhole σC v p1 p2).bind fun z1 =>
  (fX11_isWhole σR p1 p2).bind fun z2 =>
  (fX11_thrown z2.2).bind fun z3 =>
  if z3 = z1.1 then if z1.1 = 0 then if z2.1 = 0 then if (lg_cmp z1.2.2 (0 : Int64)) = 0 then some (z1.2.1, z2.2, z1.2.2) else none else if (lg_cmp z1.2.2 (1 : Int64)) = 0 then some (z1.2.1, z2.2, z1.2.2) else none else some (z1.2.1, z2.2, z1.2.2) else none
noncomputable def fLaw_c29 (σC σR : St) (v : Int64) (p1 p2 p3 p4 : Int32) : Option LL :=
  (fL_rule σC v p1 p2 p3).bind fun z1 =>
  (fX11_rule σR p1 p2 p3).bind fun z2 =>
  (fX11_thrown z2.2).bind fun z3 =>
  if z3 = z1.1 then if z1.1 = 0 then if (lg_cmp z1.2.2 z2.1.toInt64) = 0 then some (z1.2.1, z2.2, z1.2.2) else none else some (z1.2.1, z2.2, z1.2.2) else none
noncomputable def fLaw_c30 (σC σR : St) (v : Int64) (p1 p2 p3 p4 : Int32) : Option LL :=
  (fL_dropRule σC v p1).bind fun z1 =>
  (fX11_dropRule σR p1).bind fun z2 =>
  (fX11_thrown z2.2).bind fun z3 =>
  if z3 = z1.1 then if z1.1 = 0 then if (lg_cmp z1.2.2 z2.1.toInt64) = 0 then some (z1.2.1, z2.2, z1.2.2) else none else some (z1.2.1, z2.2, z1.2.2) else none
noncomputable def fLaw_c31 (σC σR : St) (v : Int64) (p1 p2 p3 p4 : Int32) : Option LL :=
  (fX10_inferred σC).bind fun z1 =>
  (fX11_inferred σR).bind fun z2 =>
  if z1 = z2.1 then some (σC, z2.2, v) else none
noncomputable def fLaw_c32 (σC σR : St) (v : Int64) (p1 p2 p3 p4 : Int32) : Option LL :=
  (fL_reasons σC v p1 p2 p3).bind fun z1 =>
  (fX11_reasons σR p1 p2 p3).bind fun z2 =>
  (fX11_thrown z2.2).bind fun z3 =>
  if z3 = z1.1 then if z1.1 = 0 then if (lg_cmp z1.2.2 z2.1.toInt64) = 0 then some (z1.2.1, z2.2, z1.2.2) else none else some (z1.2.1, z2.2, z1.2.2) else none
noncomputable def fLaw_c33 (σC σR : St) (v : Int64) (p1 p2 p3 p4 : Int32) : Option LL :=
  (fL_walk σC v p1 p2).bind fun z1 =>
  (fX11_walk σR p1 p2).bind fun z2 =>
  (fX11_thrown z2.2).bind fun z3 =>
  if z3 = z1.1 then if z1.1 = 0 then if (lg_cmp z1.2.2 z2.1.toInt64) = 0 then some (z1.2.1, z2.2, z1.2.2) else none else some (z1.2.1, z2.2, z1.2.2) else none
noncomputable def fLaw_c34 (σC σR : St) (v : Int64) (p1 p2 p3 p4 : Int32) : Option LL :=
  (fL_crossings σC v p1 p2).bind fun z1 =>
  (fX11_crossings σR p1 p2).bind fun z2 =>
  (fX11_thrown z2.2).bind fun z3 =>
  if z3 = z1.1 then if z1.1 = 0 then if (lg_cmp z1.2.2 z2.1.toInt64) = 0 then some (z1.2.1, z2.2, z1.2.2) else none else some (z1.2.1, z2.2, z1.2.2) else none
noncomputable def fLaw_c35 (σC σR : St) (v : Int64) (p1 p2 p3 p4 : Int32) : Option LL :=
  (fL_round σC v p1).bind fun z1 =>
  (fX11_round σR p1).bind fun z2 =>
  (fX11_thrown z2.2).bind fun z3 =>
  if z3 = z1.1 then if z1.1 = 0 then if (lg_cmp z1.2.2 z2.1.toInt64) = 0 then some (z1.2.1, z2.2, z1.2.2) else none else some (z1.2.1, z2.2, z1.2.2) else none
noncomputable def fLaw_c36 (σC σR : St) (v : Int64) (p1 p2 p3 p4 : Int32) : Option LL :=
  (fL_mark σC v p1).bind fun z1 =>
  (fX11_mark σR p1).bind fun z2 =>
  (fX11_thrown z2.2).bind fun z3 =>
  if z3 = z1.1 then if z1.1 = 0 then if (lg_cmp z1.2.2 z2.1.toInt64) = 0 then some (z1.2.1, z2.2, z1.2.2) else none else some (z1.2.1, z2.2, z1.2.2) else none
noncomputable def fLaw_c37 (σC σR : St) (v : Int64) (p1 p2 p3 p4 : Int32) : Option LL :=
  (fL_least σC v p1).bind fun z1 =>
  (fX11_least σR p1).bind fun z2 =>
  (fX11_thrown z2.2).bind fun z3 =>
  if z3 = z1.1 then if z1.1 = 0 then if (lg_cmp z1.2.2 z2.1.toInt64) = 0 then some (z1.2.1, z2.2, z1.2.2) else none else some (z1.2.1, z2.2, z1.2.2) else none
noncomputable def fLaw_step (σC σR : St) (v : Int64) (o p1 p2 p3 p4 : Int32) : Option LL :=
  if o = 0 then fLaw_c0 σC σR v p1 p2 p3 p4 else
  if o = 1 then fLaw_c1 σC σR v p1 p2 p3 p4 else
  if o = 2 then fLaw_c2 σC σR v p1 p2 p3 p4 else
  if o = 3 then fLaw_c3 σC σR v p1 p2 p3 p4 else
  if o = 4 then fLaw_c4 σC σR v p1 p2 p3 p4 else
  if o = 5 then fLaw_c5 σC σR v p1 p2 p3 p4 else
  if o = 6 then fLaw_c6 σC σR v p1 p2 p3 p4 else
  if o = 7 then fLaw_c7 σC σR v p1 p2 p3 p4 else
  if o = 8 then fLaw_c8 σC σR v p1 p2 p3 p4 else
  if o = 9 then fLaw_c9 σC σR v p1 p2 p3 p4 else
  if o = 10 then fLaw_c10 σC σR v p1 p2 p3 p4 else
  if o = 11 then fLaw_c11 σC σR v p1 p2 p3 p4 else
  if o = 12 then fLaw_c12 σC σR v p1 p2 p3 p4 else
  if o = 13 then fLaw_c13 σC σR v p1 p2 p3 p4 else
  if o = 14 then fLaw_c14 σC σR v p1 p2 p3 p4 else
  if o = 15 then fLaw_c15 σC σR v p1 p2 p3 p4 else
  if o = 16 then fLaw_c16 σC σR v p1 p2 p3 p4 else
  if o = 17 then fLaw_c17 σC σR v p1 p2 p3 p4 else
  if o = 18 then fLaw_c18 σC σR v p1 p2 p3 p4 else
  if o = 19 then fLaw_c19 σC σR v p1 p2 p3 p4 else
  if o = 20 then fLaw_c20 σC σR v p1 p2 p3 p4 else
  if o = 21 then fLaw_c21 σC σR v p1 p2 p3 p4 else
  if o = 22 then fLaw_c22 σC σR v p1 p2 p3 p4 else
  if o = 23 then fLaw_c23 σC σR v p1 p2 p3 p4 else
  if o = 24 then fLaw_c24 σC σR v p1 p2 p3 p4 else
  if o = 25 then fLaw_c25 σC σR v p1 p2 p3 p4 else
  if o = 26 then fLaw_c26 σC σR v p1 p2 p3 p4 else
  if o = 27 then fLaw_c27 σC σR v p1 p2 p3 p4 else
  if o = 28 then fLaw_c28 σC σR v p1 p2 p3 p4 else
  if o = 29 then fLaw_c29 σC σR v p1 p2 p3 p4 else
  if o = 30 then fLaw_c30 σC σR v p1 p2 p3 p4 else
  if o = 31 then fLaw_c31 σC σR v p1 p2 p3 p4 else
  if o = 32 then fLaw_c32 σC σR v p1 p2 p3 p4 else
  if o = 33 then fLaw_c33 σC σR v p1 p2 p3 p4 else
  if o = 34 then fLaw_c34 σC σR v p1 p2 p3 p4 else
  if o = 35 then fLaw_c35 σC σR v p1 p2 p3 p4 else
  if o = 36 then fLaw_c36 σC σR v p1 p2 p3 p4 else
  if o = 37 then fLaw_c37 σC σR v p1 p2 p3 p4 else
  some (σC, σR, v)
set_option maxHeartbeats 4000000 in
theorem wLaw_c0 {p : Program} {l : Launch} {e : Env} {s : State} {m : MethodId} {args : Array Value} {below : List Frame} {meth : Method} {c : Code} {Q : State → Prop} {A : Nat → Prop} {D : DD} {B : Nat} (hF : KF D B cL_law RL A 7 601024 7293034 p l e room_1 s m args below meth c) (hl : l.stackTraces = false) (hNc : KNc s) (hA : ∀ q, B ≤ q → A q) {b Ls : Nat} {xs : Nat → Int32} (hS : SC b Ls xs A s) {i p1 p2 p3 p4 : Int32} (hp : PA xs Ls i p1 p2 p3 p4) {bc bs bc' bs' : Nat} (hbc : bc' + 6 ≤ bc) (hbs : bs' + 36 ≤ bs) {σC σR : St} {v : Int64} {z : LL} (h : fLaw_c0 σC σR v p1 p2 p3 p4 = some z)
    (kk : KJ (RepL D B) A 7 601024 7293034 Q p l e room_1 s m args below meth c bc' bs' 2437 [some (.ref b), some (.ref (B + 0)), some (.ref (B + 121 + 0)), some (.ref (B + 164)), some (.int i), none, none] [] z) : KJ (RepL D B) A 7 601024 7293034 Q p l e room_1 s m args below meth c bc bs 204 [some (.ref b), some (.ref (B + 0)), some (.ref (B + 121 + 0)), some (.ref (B + 164)), some (.int i), none, none] [] (σC, σR, v) := by
  unfold fLaw_c0 at h
  refine k_aload_n hF dL_law_204 rfl ?_
  refine k_aload_n hF dL_law_205 rfl ?_
  refine k_iload hF dL_law_206 rfl ?_
  refine k_iconst hF dL_law_208 ci_1 ?_
  refine k_iadd hF dL_law_209 ?_
  refine kl_sld hF hS hp.1.1 hp.1.2 dL_law_210 ?_
  refine k_aload_n hF dL_law_211 rfl ?_
  refine k_iload hF dL_law_212 rfl ?_
  refine k_iconst hF dL_law_214 ci_2 ?_
  refine k_iadd hF dL_law_215 ?_
  refine kl_sld hF hS hp.2.1.1 hp.2.1.2 dL_law_216 ?_
  refine k_aload_n hF dL_law_217 rfl ?_
  obtain ⟨z1, hz1, h⟩ := bind_some h
  refine kl_H hF hNc hA bc' bs' (as := [.ref (B + 0), .int p1, .int p2, .ref (B + 164)]) (ct_L_node hl (Nat.le_refl _) (Nat.add_le_add_left (Nat.le_of_ble_eq_true rfl) _) hz1) mh_L_131 rfl rfl ⟨Nat.le_of_ble_eq_true rfl, Nat.le_of_ble_eq_true rfl⟩ (Nat.le_of_ble_eq_true rfl) dL_law_218 (by omega) (by omega) ?_
  refine k_st (st2 := [.int z1.1]) rfl ?_
  refine k_istore hF (L' := [some (.ref b), some (.ref (B + 0)), some (.ref (B + 121 + 0)), some (.ref (B + 164)), some (.int i), some (.int z1.1), none]) dL_law_221 (by decide) rfl ?_
  refine k_aload_n hF dL_law_223 rfl ?_
  refine k_aload_n hF dL_law_224 rfl ?_
  refine k_iload hF dL_law_225 rfl ?_
  refine k_iconst hF dL_law_227 ci_1 ?_
  refine k_iadd hF dL_law_228 ?_
  refine kl_sld hF hS hp.1.1 hp.1.2 dL_law_229 ?_
  refine k_aload_n hF dL_law_230 rfl ?_
  refine k_iload hF dL_law_231 rfl ?_
  refine k_iconst hF dL_law_233 ci_2 ?_
  refine k_iadd hF dL_law_234 ?_
  refine kl_sld hF hS hp.2.1.1 hp.2.1.2 dL_law_235 ?_
  obtain ⟨z2, hz2, h⟩ := bind_some h
  refine kl_M hF hA (as := [.int p1, .int p2]) (ct_X11_node (Nat.le_add_right _ _) hz2) mv_L_136 shR_0 rfl rfl rfl ⟨Nat.le_of_ble_eq_true rfl, Nat.le_of_ble_eq_true rfl⟩ (Nat.le_of_ble_eq_true rfl) dL_law_236 ?_
  refine k_st (st2 := [.int z2.1]) rfl ?_
  refine k_istore hF (L' := [some (.ref b), some (.ref (B + 0)), some (.ref (B + 121 + 0)), some (.ref (B + 164)), some (.int i), some (.int z1.1), some (.int z2.1)]) dL_law_239 (by decide) rfl ?_
  refine k_aload_n hF dL_law_241 rfl ?_
  obtain ⟨z3, hz3, h⟩ := bind_some h
  refine kl_M hF hA (as := []) (ct_X11_thrown (Nat.le_add_right _ _) hz3) mv_L_137 shR_0 rfl rfl rfl ⟨Nat.le_of_ble_eq_true rfl, Nat.le_of_ble_eq_true rfl⟩ (Nat.le_of_ble_eq_true rfl) dL_law_242 ?_
  refine k_st (st2 := [.int z3]) rfl ?_
  refine k_iload hF dL_law_245 rfl ?_
  by_cases c4 : z3 = z1.1
  · replace h := ite_t c4 h
    refine k_icmp_eq hF (tgt := 252) dL_law_247 (by decide) (fun _ => ?_) (fun c => absurd c4 c)
    refine k_iload hF dL_law_252 rfl ?_
    by_cases c5 : z1.1 = 0
    · replace h := ite_t c5 h
      refine k_if_ne hF (tgt := 269) dL_law_254 (by decide) (fun c => absurd c5 c) (fun _ => ?_)
      refine k_aload_n hF dL_law_257 rfl ?_
      refine k_iconst hF dL_law_258 ci_0 ?_
      refine kl_lald hF dL_law_259 ?_
      refine k_iload hF dL_law_260 rfl ?_
      refine k_i2l hF dL_law_262 ?_
      refine k_lcmp hF dL_law_263 ?_
      by_cases c6 : (lg_cmp z1.2.2 z2.1.toInt64) = 0
      · replace h := ite_t c6 h
        refine k_if_eq hF (tgt := 269) dL_law_264 (by decide) (fun _ => ?_) (fun c => absurd c6 c)
        refine k_goto hF (tgt := 2437) dL_law_269 (by decide) ?_
        refine k_kill 5 rfl ?_
        refine k_kill 6 rfl ?_
        cases h
        exact kk
      · replace h := ite_f c6 h
        cases h
    · replace h := ite_f c5 h
      refine k_if_ne hF (tgt := 269) dL_law_254 (by decide) (fun _ => ?_) (fun c => absurd c c5)
      refine k_goto hF (tgt := 2437) dL_law_269 (by decide) ?_
      refine k_kill 5 rfl ?_
      refine k_kill 6 rfl ?_
      cases h
      exact kk
  · replace h := ite_f c4 h
    cases h
set_option maxHeartbeats 4000000 in
theorem wLaw_c1 {p : Program} {l : Launch} {e : Env} {s : State} {m : MethodId} {args : Array Value} {below : List Frame} {meth : Method} {c : Code} {Q : State → Prop} {A : Nat → Prop} {D : DD} {B : Nat} (hF : KF D B cL_law RL A 7 601024 7293034 p l e room_1 s m args below meth c) (hl : l.stackTraces = false) (hNc : KNc s) (hA : ∀ q, B ≤ q → A q) {b Ls : Nat} {xs : Nat → Int32} (hS : SC b Ls xs A s) {i p1 p2 p3 p4 : Int32} (hp : PA xs Ls i p1 p2 p3 p4) {bc bs bc' bs' : Nat} (hbc : bc' + 6 ≤ bc) (hbs : bs' + 36 ≤ bs) {σC σR : St} {v : Int64} {z : LL} (h : fLaw_c1 σC σR v p1 p2 p3 p4 = some z)
    (kk : KJ (RepL D B) A 7 601024 7293034 Q p l e room_1 s m args below meth c bc' bs' 2437 [some (.ref b), some (.ref (B + 0)), some (.ref (B + 121 + 0)), some (.ref (B + 164)), some (.int i), none, none] [] z) : KJ (RepL D B) A 7 601024 7293034 Q p l e room_1 s m args below meth c bc bs 272 [some (.ref b), some (.ref (B + 0)), some (.ref (B + 121 + 0)), some (.ref (B + 164)), some (.int i), none, none] [] (σC, σR, v) := by
  unfold fLaw_c1 at h
  refine k_aload_n hF dL_law_272 rfl ?_
  refine k_aload_n hF dL_law_273 rfl ?_
  refine k_iload hF dL_law_274 rfl ?_
  refine k_iconst hF dL_law_276 ci_1 ?_
  refine k_iadd hF dL_law_277 ?_
  refine kl_sld hF hS hp.1.1 hp.1.2 dL_law_278 ?_
  refine k_aload_n hF dL_law_279 rfl ?_
  refine k_iload hF dL_law_280 rfl ?_
  refine k_iconst hF dL_law_282 ci_2 ?_
  refine k_iadd hF dL_law_283 ?_
  refine kl_sld hF hS hp.2.1.1 hp.2.1.2 dL_law_284 ?_
  refine k_aload_n hF dL_law_285 rfl ?_
  refine k_iload hF dL_law_286 rfl ?_
  refine k_iconst hF dL_law_288 ci_3 ?_
  refine k_iadd hF dL_law_289 ?_
  refine kl_sld hF hS hp.2.2.1.1 hp.2.2.1.2 dL_law_290 ?_
  refine k_aload_n hF dL_law_291 rfl ?_
  obtain ⟨z1, hz1, h⟩ := bind_some h
  refine kl_H hF hNc hA bc' bs' (as := [.ref (B + 0), .int p1, .int p2, .int p3, .ref (B + 164)]) (ct_L_edge hl (Nat.le_refl _) (Nat.add_le_add_left (Nat.le_of_ble_eq_true rfl) _) hz1) mh_L_140 rfl rfl ⟨Nat.le_of_ble_eq_true rfl, Nat.le_of_ble_eq_true rfl⟩ (Nat.le_of_ble_eq_true rfl) dL_law_292 (by omega) (by omega) ?_
  refine k_st (st2 := [.int z1.1]) rfl ?_
  refine k_istore hF (L' := [some (.ref b), some (.ref (B + 0)), some (.ref (B + 121 + 0)), some (.ref (B + 164)), some (.int i), some (.int z1.1), none]) dL_law_295 (by decide) rfl ?_
  refine k_aload_n hF dL_law_297 rfl ?_
  refine k_aload_n hF dL_law_298 rfl ?_
  refine k_iload hF dL_law_299 rfl ?_
  refine k_iconst hF dL_law_301 ci_1 ?_
  refine k_iadd hF dL_law_302 ?_
  refine kl_sld hF hS hp.1.1 hp.1.2 dL_law_303 ?_
  refine k_aload_n hF dL_law_304 rfl ?_
  refine k_iload hF dL_law_305 rfl ?_
  refine k_iconst hF dL_law_307 ci_2 ?_
  refine k_iadd hF dL_law_308 ?_
  refine kl_sld hF hS hp.2.1.1 hp.2.1.2 dL_law_309 ?_
  refine k_aload_n hF dL_law_310 rfl ?_
  refine k_iload hF dL_law_311 rfl ?_
  refine k_iconst hF dL_law_313 ci_3 ?_
  refine k_iadd hF dL_law_314 ?_
  refine kl_sld hF hS hp.2.2.1.1 hp.2.2.1.2 dL_law_315 ?_
  obtain ⟨z2, hz2, h⟩ := bind_some h
  refine kl_M hF hA (as := [.int p1, .int p2, .int p3]) (ct_X11_edge (Nat.le_add_right _ _) hz2) mv_L_143 shR_0 rfl rfl rfl ⟨Nat.le_of_ble_eq_true rfl, Nat.le_of_ble_eq_true rfl⟩ (Nat.le_of_ble_eq_true rfl) dL_law_316 ?_
  refine k_st (st2 := [.int z2.1]) rfl ?_
  refine k_istore hF (L' := [some (.ref b), some (.ref (B + 0)), some (.ref (B + 121 + 0)), some (.ref (B + 164)), some (.int i), some (.int z1.1), some (.int z2.1)]) dL_law_319 (by decide) rfl ?_
  refine k_aload_n hF dL_law_321 rfl ?_
  obtain ⟨z3, hz3, h⟩ := bind_some h
  refine kl_M hF hA (as := []) (ct_X11_thrown (Nat.le_add_right _ _) hz3) mv_L_137 shR_0 rfl rfl rfl ⟨Nat.le_of_ble_eq_true rfl, Nat.le_of_ble_eq_true rfl⟩ (Nat.le_of_ble_eq_true rfl) dL_law_322 ?_
  refine k_st (st2 := [.int z3]) rfl ?_
  refine k_iload hF dL_law_325 rfl ?_
  by_cases c4 : z3 = z1.1
  · replace h := ite_t c4 h
    refine k_icmp_eq hF (tgt := 332) dL_law_327 (by decide) (fun _ => ?_) (fun c => absurd c4 c)
    refine k_iload hF dL_law_332 rfl ?_
    by_cases c5 : z1.1 = 0
    · replace h := ite_t c5 h
      refine k_if_ne hF (tgt := 349) dL_law_334 (by decide) (fun c => absurd c5 c) (fun _ => ?_)
      refine k_aload_n hF dL_law_337 rfl ?_
      refine k_iconst hF dL_law_338 ci_0 ?_
      refine kl_lald hF dL_law_339 ?_
      refine k_iload hF dL_law_340 rfl ?_
      refine k_i2l hF dL_law_342 ?_
      refine k_lcmp hF dL_law_343 ?_
      by_cases c6 : (lg_cmp z1.2.2 z2.1.toInt64) = 0
      · replace h := ite_t c6 h
        refine k_if_eq hF (tgt := 349) dL_law_344 (by decide) (fun _ => ?_) (fun c => absurd c6 c)
        refine k_goto hF (tgt := 2437) dL_law_349 (by decide) ?_
        refine k_kill 5 rfl ?_
        refine k_kill 6 rfl ?_
        cases h
        exact kk
      · replace h := ite_f c6 h
        cases h
    · replace h := ite_f c5 h
      refine k_if_ne hF (tgt := 349) dL_law_334 (by decide) (fun _ => ?_) (fun c => absurd c c5)
      refine k_goto hF (tgt := 2437) dL_law_349 (by decide) ?_
      refine k_kill 5 rfl ?_
      refine k_kill 6 rfl ?_
      cases h
      exact kk
  · replace h := ite_f c4 h
    cases h
set_option maxHeartbeats 4000000 in
theorem wLaw_c2 {p : Program} {l : Launch} {e : Env} {s : State} {m : MethodId} {args : Array Value} {below : List Frame} {meth : Method} {c : Code} {Q : State → Prop} {A : Nat → Prop} {D : DD} {B : Nat} (hF : KF D B cL_law RL A 7 601024 7293034 p l e room_1 s m args below meth c) (hl : l.stackTraces = false) (hNc : KNc s) (hA : ∀ q, B ≤ q → A q) {b Ls : Nat} {xs : Nat → Int32} (hS : SC b Ls xs A s) {i p1 p2 p3 p4 : Int32} (hp : PA xs Ls i p1 p2 p3 p4) {bc bs bc' bs' : Nat} (hbc : bc' + 6 ≤ bc) (hbs : bs' + 36 ≤ bs) {σC σR : St} {v : Int64} {z : LL} (h : fLaw_c2 σC σR v p1 p2 p3 p4 = some z)
    (kk : KJ (RepL D B) A 7 601024 7293034 Q p l e room_1 s m args below meth c bc' bs' 2437 [some (.ref b), some (.ref (B + 0)), some (.ref (B + 121 + 0)), some (.ref (B + 164)), some (.int i), none, none] [] z) : KJ (RepL D B) A 7 601024 7293034 Q p l e room_1 s m args below meth c bc bs 352 [some (.ref b), some (.ref (B + 0)), some (.ref (B + 121 + 0)), some (.ref (B + 164)), some (.int i), none, none] [] (σC, σR, v) := by
  unfold fLaw_c2 at h
  refine k_aload_n hF dL_law_352 rfl ?_
  refine k_aload_n hF dL_law_353 rfl ?_
  refine k_iload hF dL_law_354 rfl ?_
  refine k_iconst hF dL_law_356 ci_1 ?_
  refine k_iadd hF dL_law_357 ?_
  refine kl_sld hF hS hp.1.1 hp.1.2 dL_law_358 ?_
  refine k_aload_n hF dL_law_359 rfl ?_
  refine k_iload hF dL_law_360 rfl ?_
  refine k_iconst hF dL_law_362 ci_2 ?_
  refine k_iadd hF dL_law_363 ?_
  refine kl_sld hF hS hp.2.1.1 hp.2.1.2 dL_law_364 ?_
  refine k_aload_n hF dL_law_365 rfl ?_
  obtain ⟨z1, hz1, h⟩ := bind_some h
  refine kl_H hF hNc hA bc' bs' (as := [.ref (B + 0), .int p1, .int p2, .ref (B + 164)]) (ct_L_set hl (Nat.le_refl _) (Nat.add_le_add_left (Nat.le_of_ble_eq_true rfl) _) hz1) mh_L_144 rfl rfl ⟨Nat.le_of_ble_eq_true rfl, Nat.le_of_ble_eq_true rfl⟩ (Nat.le_of_ble_eq_true rfl) dL_law_366 (by omega) (by omega) ?_
  refine k_st (st2 := [.int z1.1]) rfl ?_
  refine k_istore hF (L' := [some (.ref b), some (.ref (B + 0)), some (.ref (B + 121 + 0)), some (.ref (B + 164)), some (.int i), some (.int z1.1), none]) dL_law_369 (by decide) rfl ?_
  refine k_aload_n hF dL_law_371 rfl ?_
  refine k_aload_n hF dL_law_372 rfl ?_
  refine k_iload hF dL_law_373 rfl ?_
  refine k_iconst hF dL_law_375 ci_1 ?_
  refine k_iadd hF dL_law_376 ?_
  refine kl_sld hF hS hp.1.1 hp.1.2 dL_law_377 ?_
  refine k_aload_n hF dL_law_378 rfl ?_
  refine k_iload hF dL_law_379 rfl ?_
  refine k_iconst hF dL_law_381 ci_2 ?_
  refine k_iadd hF dL_law_382 ?_
  refine kl_sld hF hS hp.2.1.1 hp.2.1.2 dL_law_383 ?_
  obtain ⟨z2, hz2, h⟩ := bind_some h
  refine kl_M hF hA (as := [.int p1, .int p2]) (ct_X11_set (Nat.le_add_right _ _) hz2) mv_L_146 shR_0 rfl rfl rfl ⟨Nat.le_of_ble_eq_true rfl, Nat.le_of_ble_eq_true rfl⟩ (Nat.le_of_ble_eq_true rfl) dL_law_384 ?_
  refine k_st (st2 := [.int z2.1]) rfl ?_
  refine k_istore hF (L' := [some (.ref b), some (.ref (B + 0)), some (.ref (B + 121 + 0)), some (.ref (B + 164)), some (.int i), some (.int z1.1), some (.int z2.1)]) dL_law_387 (by decide) rfl ?_
  refine k_aload_n hF dL_law_389 rfl ?_
  obtain ⟨z3, hz3, h⟩ := bind_some h
  refine kl_M hF hA (as := []) (ct_X11_thrown (Nat.le_add_right _ _) hz3) mv_L_137 shR_0 rfl rfl rfl ⟨Nat.le_of_ble_eq_true rfl, Nat.le_of_ble_eq_true rfl⟩ (Nat.le_of_ble_eq_true rfl) dL_law_390 ?_
  refine k_st (st2 := [.int z3]) rfl ?_
  refine k_iload hF dL_law_393 rfl ?_
  by_cases c4 : z3 = z1.1
  · replace h := ite_t c4 h
    refine k_icmp_eq hF (tgt := 400) dL_law_395 (by decide) (fun _ => ?_) (fun c => absurd c4 c)
    refine k_iload hF dL_law_400 rfl ?_
    by_cases c5 : z1.1 = 0
    · replace h := ite_t c5 h
      refine k_if_ne hF (tgt := 417) dL_law_402 (by decide) (fun c => absurd c5 c) (fun _ => ?_)
      refine k_aload_n hF dL_law_405 rfl ?_
      refine k_iconst hF dL_law_406 ci_0 ?_
      refine kl_lald hF dL_law_407 ?_
      refine k_iload hF dL_law_408 rfl ?_
      refine k_i2l hF dL_law_410 ?_
      refine k_lcmp hF dL_law_411 ?_
      by_cases c6 : (lg_cmp z1.2.2 z2.1.toInt64) = 0
      · replace h := ite_t c6 h
        refine k_if_eq hF (tgt := 417) dL_law_412 (by decide) (fun _ => ?_) (fun c => absurd c6 c)
        refine k_goto hF (tgt := 2437) dL_law_417 (by decide) ?_
        refine k_kill 5 rfl ?_
        refine k_kill 6 rfl ?_
        cases h
        exact kk
      · replace h := ite_f c6 h
        cases h
    · replace h := ite_f c5 h
      refine k_if_ne hF (tgt := 417) dL_law_402 (by decide) (fun _ => ?_) (fun c => absurd c c5)
      refine k_goto hF (tgt := 2437) dL_law_417 (by decide) ?_
      refine k_kill 5 rfl ?_
      refine k_kill 6 rfl ?_
      cases h
      exact kk
  · replace h := ite_f c4 h
    cases h
set_option maxHeartbeats 4000000 in
theorem wLaw_c3 {p : Program} {l : Launch} {e : Env} {s : State} {m : MethodId} {args : Array Value} {below : List Frame} {meth : Method} {c : Code} {Q : State → Prop} {A : Nat → Prop} {D : DD} {B : Nat} (hF : KF D B cL_law RL A 7 601024 7293034 p l e room_1 s m args below meth c) (hl : l.stackTraces = false) (hNc : KNc s) (hA : ∀ q, B ≤ q → A q) {b Ls : Nat} {xs : Nat → Int32} (hS : SC b Ls xs A s) {i p1 p2 p3 p4 : Int32} (hp : PA xs Ls i p1 p2 p3 p4) {bc bs bc' bs' : Nat} (hbc : bc' + 6 ≤ bc) (hbs : bs' + 36 ≤ bs) {σC σR : St} {v : Int64} {z : LL} (h : fLaw_c3 σC σR v p1 p2 p3 p4 = some z)
    (kk : KJ (RepL D B) A 7 601024 7293034 Q p l e room_1 s m args below meth c bc' bs' 2437 [some (.ref b), some (.ref (B + 0)), some (.ref (B + 121 + 0)), some (.ref (B + 164)), some (.int i), none, none] [] z) : KJ (RepL D B) A 7 601024 7293034 Q p l e room_1 s m args below meth c bc bs 420 [some (.ref b), some (.ref (B + 0)), some (.ref (B + 121 + 0)), some (.ref (B + 164)), some (.int i), none, none] [] (σC, σR, v) := by
  unfold fLaw_c3 at h
  refine k_aload_n hF dL_law_420 rfl ?_
  refine k_aload_n hF dL_law_421 rfl ?_
  refine k_iload hF dL_law_422 rfl ?_
  refine k_iconst hF dL_law_424 ci_1 ?_
  refine k_iadd hF dL_law_425 ?_
  refine kl_sld hF hS hp.1.1 hp.1.2 dL_law_426 ?_
  refine k_aload_n hF dL_law_427 rfl ?_
  obtain ⟨z1, hz1, h⟩ := bind_some h
  refine kl_H hF hNc hA bc' bs' (as := [.ref (B + 0), .int p1, .ref (B + 164)]) (ct_L_dropEdge hl (Nat.le_refl _) (Nat.add_le_add_left (Nat.le_of_ble_eq_true rfl) _) hz1) mh_L_147 rfl rfl ⟨Nat.le_of_ble_eq_true rfl, Nat.le_of_ble_eq_true rfl⟩ (Nat.le_of_ble_eq_true rfl) dL_law_428 (by omega) (by omega) ?_
  refine k_st (st2 := [.int z1.1]) rfl ?_
  refine k_istore hF (L' := [some (.ref b), some (.ref (B + 0)), some (.ref (B + 121 + 0)), some (.ref (B + 164)), some (.int i), some (.int z1.1), none]) dL_law_431 (by decide) rfl ?_
  refine k_aload_n hF dL_law_433 rfl ?_
  refine k_aload_n hF dL_law_434 rfl ?_
  refine k_iload hF dL_law_435 rfl ?_
  refine k_iconst hF dL_law_437 ci_1 ?_
  refine k_iadd hF dL_law_438 ?_
  refine kl_sld hF hS hp.1.1 hp.1.2 dL_law_439 ?_
  obtain ⟨z2, hz2, h⟩ := bind_some h
  refine kl_M hF hA (as := [.int p1]) (ct_X11_dropEdge (Nat.le_add_right _ _) hz2) mv_L_150 shR_0 rfl rfl rfl ⟨Nat.le_of_ble_eq_true rfl, Nat.le_of_ble_eq_true rfl⟩ (Nat.le_of_ble_eq_true rfl) dL_law_440 ?_
  refine k_st (st2 := [.int z2.1]) rfl ?_
  refine k_istore hF (L' := [some (.ref b), some (.ref (B + 0)), some (.ref (B + 121 + 0)), some (.ref (B + 164)), some (.int i), some (.int z1.1), some (.int z2.1)]) dL_law_443 (by decide) rfl ?_
  refine k_aload_n hF dL_law_445 rfl ?_
  obtain ⟨z3, hz3, h⟩ := bind_some h
  refine kl_M hF hA (as := []) (ct_X11_thrown (Nat.le_add_right _ _) hz3) mv_L_137 shR_0 rfl rfl rfl ⟨Nat.le_of_ble_eq_true rfl, Nat.le_of_ble_eq_true rfl⟩ (Nat.le_of_ble_eq_true rfl) dL_law_446 ?_
  refine k_st (st2 := [.int z3]) rfl ?_
  refine k_iload hF dL_law_449 rfl ?_
  by_cases c4 : z3 = z1.1
  · replace h := ite_t c4 h
    refine k_icmp_eq hF (tgt := 456) dL_law_451 (by decide) (fun _ => ?_) (fun c => absurd c4 c)
    refine k_iload hF dL_law_456 rfl ?_
    by_cases c5 : z1.1 = 0
    · replace h := ite_t c5 h
      refine k_if_ne hF (tgt := 473) dL_law_458 (by decide) (fun c => absurd c5 c) (fun _ => ?_)
      refine k_aload_n hF dL_law_461 rfl ?_
      refine k_iconst hF dL_law_462 ci_0 ?_
      refine kl_lald hF dL_law_463 ?_
      refine k_iload hF dL_law_464 rfl ?_
      refine k_i2l hF dL_law_466 ?_
      refine k_lcmp hF dL_law_467 ?_
      by_cases c6 : (lg_cmp z1.2.2 z2.1.toInt64) = 0
      · replace h := ite_t c6 h
        refine k_if_eq hF (tgt := 473) dL_law_468 (by decide) (fun _ => ?_) (fun c => absurd c6 c)
        refine k_goto hF (tgt := 2437) dL_law_473 (by decide) ?_
        refine k_kill 5 rfl ?_
        refine k_kill 6 rfl ?_
        cases h
        exact kk
      · replace h := ite_f c6 h
        cases h
    · replace h := ite_f c5 h
      refine k_if_ne hF (tgt := 473) dL_law_458 (by decide) (fun _ => ?_) (fun c => absurd c c5)
      refine k_goto hF (tgt := 2437) dL_law_473 (by decide) ?_
      refine k_kill 5 rfl ?_
      refine k_kill 6 rfl ?_
      cases h
      exact kk
  · replace h := ite_f c4 h
    cases h
set_option maxHeartbeats 4000000 in
theorem wLaw_c4 {p : Program} {l : Launch} {e : Env} {s : State} {m : MethodId} {args : Array Value} {below : List Frame} {meth : Method} {c : Code} {Q : State → Prop} {A : Nat → Prop} {D : DD} {B : Nat} (hF : KF D B cL_law RL A 7 601024 7293034 p l e room_1 s m args below meth c) (hl : l.stackTraces = false) (hNc : KNc s) (hA : ∀ q, B ≤ q → A q) {b Ls : Nat} {xs : Nat → Int32} (hS : SC b Ls xs A s) {i p1 p2 p3 p4 : Int32} (hp : PA xs Ls i p1 p2 p3 p4) {bc bs bc' bs' : Nat} (hbc : bc' + 6 ≤ bc) (hbs : bs' + 36 ≤ bs) {σC σR : St} {v : Int64} {z : LL} (h : fLaw_c4 σC σR v p1 p2 p3 p4 = some z)
    (kk : KJ (RepL D B) A 7 601024 7293034 Q p l e room_1 s m args below meth c bc' bs' 2437 [some (.ref b), some (.ref (B + 0)), some (.ref (B + 121 + 0)), some (.ref (B + 164)), some (.int i), none, none] [] z) : KJ (RepL D B) A 7 601024 7293034 Q p l e room_1 s m args below meth c bc bs 476 [some (.ref b), some (.ref (B + 0)), some (.ref (B + 121 + 0)), some (.ref (B + 164)), some (.int i), none, none] [] (σC, σR, v) := by
  unfold fLaw_c4 at h
  refine k_aload_n hF dL_law_476 rfl ?_
  refine k_aload_n hF dL_law_477 rfl ?_
  refine k_iload hF dL_law_478 rfl ?_
  refine k_iconst hF dL_law_480 ci_1 ?_
  refine k_iadd hF dL_law_481 ?_
  refine kl_sld hF hS hp.1.1 hp.1.2 dL_law_482 ?_
  refine k_aload_n hF dL_law_483 rfl ?_
  obtain ⟨z1, hz1, h⟩ := bind_some h
  refine kl_H hF hNc hA bc' bs' (as := [.ref (B + 0), .int p1, .ref (B + 164)]) (ct_L_dropNode hl (Nat.le_refl _) (Nat.add_le_add_left (Nat.le_of_ble_eq_true rfl) _) hz1) mh_L_151 rfl rfl ⟨Nat.le_of_ble_eq_true rfl, Nat.le_of_ble_eq_true rfl⟩ (Nat.le_of_ble_eq_true rfl) dL_law_484 (by omega) (by omega) ?_
  refine k_st (st2 := [.int z1.1]) rfl ?_
  refine k_istore hF (L' := [some (.ref b), some (.ref (B + 0)), some (.ref (B + 121 + 0)), some (.ref (B + 164)), some (.int i), some (.int z1.1), none]) dL_law_487 (by decide) rfl ?_
  refine k_aload_n hF dL_law_489 rfl ?_
  refine k_aload_n hF dL_law_490 rfl ?_
  refine k_iload hF dL_law_491 rfl ?_
  refine k_iconst hF dL_law_493 ci_1 ?_
  refine k_iadd hF dL_law_494 ?_
  refine kl_sld hF hS hp.1.1 hp.1.2 dL_law_495 ?_
  obtain ⟨z2, hz2, h⟩ := bind_some h
  refine kl_M hF hA (as := [.int p1]) (ct_X11_dropNode (Nat.le_add_right _ _) hz2) mv_L_153 shR_0 rfl rfl rfl ⟨Nat.le_of_ble_eq_true rfl, Nat.le_of_ble_eq_true rfl⟩ (Nat.le_of_ble_eq_true rfl) dL_law_496 ?_
  refine k_st (st2 := [.int z2.1]) rfl ?_
  refine k_istore hF (L' := [some (.ref b), some (.ref (B + 0)), some (.ref (B + 121 + 0)), some (.ref (B + 164)), some (.int i), some (.int z1.1), some (.int z2.1)]) dL_law_499 (by decide) rfl ?_
  refine k_aload_n hF dL_law_501 rfl ?_
  obtain ⟨z3, hz3, h⟩ := bind_some h
  refine kl_M hF hA (as := []) (ct_X11_thrown (Nat.le_add_right _ _) hz3) mv_L_137 shR_0 rfl rfl rfl ⟨Nat.le_of_ble_eq_true rfl, Nat.le_of_ble_eq_true rfl⟩ (Nat.le_of_ble_eq_true rfl) dL_law_502 ?_
  refine k_st (st2 := [.int z3]) rfl ?_
  refine k_iload hF dL_law_505 rfl ?_
  by_cases c4 : z3 = z1.1
  · replace h := ite_t c4 h
    refine k_icmp_eq hF (tgt := 512) dL_law_507 (by decide) (fun _ => ?_) (fun c => absurd c4 c)
    refine k_iload hF dL_law_512 rfl ?_
    by_cases c5 : z1.1 = 0
    · replace h := ite_t c5 h
      refine k_if_ne hF (tgt := 529) dL_law_514 (by decide) (fun c => absurd c5 c) (fun _ => ?_)
      refine k_aload_n hF dL_law_517 rfl ?_
      refine k_iconst hF dL_law_518 ci_0 ?_
      refine kl_lald hF dL_law_519 ?_
      refine k_iload hF dL_law_520 rfl ?_
      refine k_i2l hF dL_law_522 ?_
      refine k_lcmp hF dL_law_523 ?_
      by_cases c6 : (lg_cmp z1.2.2 z2.1.toInt64) = 0
      · replace h := ite_t c6 h
        refine k_if_eq hF (tgt := 529) dL_law_524 (by decide) (fun _ => ?_) (fun c => absurd c6 c)
        refine k_goto hF (tgt := 2437) dL_law_529 (by decide) ?_
        refine k_kill 5 rfl ?_
        refine k_kill 6 rfl ?_
        cases h
        exact kk
      · replace h := ite_f c6 h
        cases h
    · replace h := ite_f c5 h
      refine k_if_ne hF (tgt := 529) dL_law_514 (by decide) (fun _ => ?_) (fun c => absurd c c5)
      refine k_goto hF (tgt := 2437) dL_law_529 (by decide) ?_
      refine k_kill 5 rfl ?_
      refine k_kill 6 rfl ?_
      cases h
      exact kk
  · replace h := ite_f c4 h
    cases h
set_option maxHeartbeats 4000000 in
theorem wLaw_c5 {p : Program} {l : Launch} {e : Env} {s : State} {m : MethodId} {args : Array Value} {below : List Frame} {meth : Method} {c : Code} {Q : State → Prop} {A : Nat → Prop} {D : DD} {B : Nat} (hF : KF D B cL_law RL A 7 601024 7293034 p l e room_1 s m args below meth c) (hl : l.stackTraces = false) (hNc : KNc s) (hA : ∀ q, B ≤ q → A q) {b Ls : Nat} {xs : Nat → Int32} (hS : SC b Ls xs A s) {i p1 p2 p3 p4 : Int32} (hp : PA xs Ls i p1 p2 p3 p4) {bc bs bc' bs' : Nat} (hbc : bc' + 6 ≤ bc) (hbs : bs' + 36 ≤ bs) {σC σR : St} {v : Int64} {z : LL} (h : fLaw_c5 σC σR v p1 p2 p3 p4 = some z)
    (kk : KJ (RepL D B) A 7 601024 7293034 Q p l e room_1 s m args below meth c bc' bs' 2437 [some (.ref b), some (.ref (B + 0)), some (.ref (B + 121 + 0)), some (.ref (B + 164)), some (.int i), none, none] [] z) : KJ (RepL D B) A 7 601024 7293034 Q p l e room_1 s m args below meth c bc bs 532 [some (.ref b), some (.ref (B + 0)), some (.ref (B + 121 + 0)), some (.ref (B + 164)), some (.int i), none, none] [] (σC, σR, v) := by
  unfold fLaw_c5 at h
  refine k_aload_n hF dL_law_532 rfl ?_
  refine k_aload_n hF dL_law_533 rfl ?_
  refine k_iload hF dL_law_534 rfl ?_
  refine k_iconst hF dL_law_536 ci_1 ?_
  refine k_iadd hF dL_law_537 ?_
  refine kl_sld hF hS hp.1.1 hp.1.2 dL_law_538 ?_
  refine k_aload_n hF dL_law_539 rfl ?_
  obtain ⟨z1, hz1, h⟩ := bind_some h
  refine kl_H hF hNc hA bc' bs' (as := [.ref (B + 0), .int p1, .ref (B + 164)]) (ct_L_key hl (Nat.le_refl _) (Nat.add_le_add_left (Nat.le_of_ble_eq_true rfl) _) hz1) mh_L_154 rfl rfl ⟨Nat.le_of_ble_eq_true rfl, Nat.le_of_ble_eq_true rfl⟩ (Nat.le_of_ble_eq_true rfl) dL_law_540 (by omega) (by omega) ?_
  refine k_st (st2 := [.int z1.1]) rfl ?_
  refine k_istore hF (L' := [some (.ref b), some (.ref (B + 0)), some (.ref (B + 121 + 0)), some (.ref (B + 164)), some (.int i), some (.int z1.1), none]) dL_law_543 (by decide) rfl ?_
  refine k_aload_n hF dL_law_545 rfl ?_
  refine k_aload_n hF dL_law_546 rfl ?_
  refine k_iload hF dL_law_547 rfl ?_
  refine k_iconst hF dL_law_549 ci_1 ?_
  refine k_iadd hF dL_law_550 ?_
  refine kl_sld hF hS hp.1.1 hp.1.2 dL_law_551 ?_
  obtain ⟨z2, hz2, h⟩ := bind_some h
  refine kl_M hF hA (as := [.int p1]) (ct_X11_key (Nat.le_add_right _ _) hz2) mv_L_156 shR_0 rfl rfl rfl ⟨Nat.le_of_ble_eq_true rfl, Nat.le_of_ble_eq_true rfl⟩ (Nat.le_of_ble_eq_true rfl) dL_law_552 ?_
  refine k_st (st2 := [.int z2.1]) rfl ?_
  refine k_istore hF (L' := [some (.ref b), some (.ref (B + 0)), some (.ref (B + 121 + 0)), some (.ref (B + 164)), some (.int i), some (.int z1.1), some (.int z2.1)]) dL_law_555 (by decide) rfl ?_
  refine k_aload_n hF dL_law_557 rfl ?_
  obtain ⟨z3, hz3, h⟩ := bind_some h
  refine kl_M hF hA (as := []) (ct_X11_thrown (Nat.le_add_right _ _) hz3) mv_L_137 shR_0 rfl rfl rfl ⟨Nat.le_of_ble_eq_true rfl, Nat.le_of_ble_eq_true rfl⟩ (Nat.le_of_ble_eq_true rfl) dL_law_558 ?_
  refine k_st (st2 := [.int z3]) rfl ?_
  refine k_iload hF dL_law_561 rfl ?_
  by_cases c4 : z3 = z1.1
  · replace h := ite_t c4 h
    refine k_icmp_eq hF (tgt := 568) dL_law_563 (by decide) (fun _ => ?_) (fun c => absurd c4 c)
    refine k_iload hF dL_law_568 rfl ?_
    by_cases c5 : z1.1 = 0
    · replace h := ite_t c5 h
      refine k_if_ne hF (tgt := 592) dL_law_570 (by decide) (fun c => absurd c5 c) (fun _ => ?_)
      refine k_aload_n hF dL_law_573 rfl ?_
      refine k_iconst hF dL_law_574 ci_0 ?_
      refine kl_lald hF dL_law_575 ?_
      refine k_iload hF dL_law_576 rfl ?_
      by_cases c6 : z2.1 = 0
      · replace h := ite_t c6 h
        refine k_if_eq hF (tgt := 585) dL_law_578 (by decide) (fun _ => ?_) (fun c => absurd c6 c)
        refine k_lconst hF (v := (0 : Int64)) dL_law_585 (by decide) ?_
        refine k_lcmp hF dL_law_586 ?_
        by_cases c7 : (lg_cmp z1.2.2 (0 : Int64)) = 0
        · replace h := ite_t c7 h
          refine k_if_eq hF (tgt := 592) dL_law_587 (by decide) (fun _ => ?_) (fun c => absurd c7 c)
          refine k_goto hF (tgt := 2437) dL_law_592 (by decide) ?_
          refine k_kill 5 rfl ?_
          refine k_kill 6 rfl ?_
          cases h
          exact kk
        · replace h := ite_f c7 h
          cases h
      · replace h := ite_f c6 h
        refine k_if_eq hF (tgt := 585) dL_law_578 (by decide) (fun c => absurd c c6) (fun _ => ?_)
        refine k_lconst hF (v := (1 : Int64)) dL_law_581 (by decide) ?_
        refine k_goto hF (tgt := 586) dL_law_582 (by decide) ?_
        refine k_lcmp hF dL_law_586 ?_
        by_cases c8 : (lg_cmp z1.2.2 (1 : Int64)) = 0
        · replace h := ite_t c8 h
          refine k_if_eq hF (tgt := 592) dL_law_587 (by decide) (fun _ => ?_) (fun c => absurd c8 c)
          refine k_goto hF (tgt := 2437) dL_law_592 (by decide) ?_
          refine k_kill 5 rfl ?_
          refine k_kill 6 rfl ?_
          cases h
          exact kk
        · replace h := ite_f c8 h
          cases h
    · replace h := ite_f c5 h
      refine k_if_ne hF (tgt := 592) dL_law_570 (by decide) (fun _ => ?_) (fun c => absurd c c5)
      refine k_goto hF (tgt := 2437) dL_law_592 (by decide) ?_
      refine k_kill 5 rfl ?_
      refine k_kill 6 rfl ?_
      cases h
      exact kk
  · replace h := ite_f c4 h
    cases h
set_option maxHeartbeats 4000000 in
theorem wLaw_c6 {p : Program} {l : Launch} {e : Env} {s : State} {m : MethodId} {args : Array Value} {below : List Frame} {meth : Method} {c : Code} {Q : State → Prop} {A : Nat → Prop} {D : DD} {B : Nat} (hF : KF D B cL_law RL A 7 601024 7293034 p l e room_1 s m args below meth c) (hl : l.stackTraces = false) (hNc : KNc s) (hA : ∀ q, B ≤ q → A q) {b Ls : Nat} {xs : Nat → Int32} (hS : SC b Ls xs A s) {i p1 p2 p3 p4 : Int32} (hp : PA xs Ls i p1 p2 p3 p4) {bc bs bc' bs' : Nat} (hbc : bc' + 6 ≤ bc) (hbs : bs' + 36 ≤ bs) {σC σR : St} {v : Int64} {z : LL} (h : fLaw_c6 σC σR v p1 p2 p3 p4 = some z)
    (kk : KJ (RepL D B) A 7 601024 7293034 Q p l e room_1 s m args below meth c bc' bs' 2437 [some (.ref b), some (.ref (B + 0)), some (.ref (B + 121 + 0)), some (.ref (B + 164)), some (.int i), none, none] [] z) : KJ (RepL D B) A 7 601024 7293034 Q p l e room_1 s m args below meth c bc bs 595 [some (.ref b), some (.ref (B + 0)), some (.ref (B + 121 + 0)), some (.ref (B + 164)), some (.int i), none, none] [] (σC, σR, v) := by
  unfold fLaw_c6 at h
  refine k_aload_n hF dL_law_595 rfl ?_
  refine k_aload_n hF dL_law_596 rfl ?_
  refine k_iload hF dL_law_597 rfl ?_
  refine k_iconst hF dL_law_599 ci_1 ?_
  refine k_iadd hF dL_law_600 ?_
  refine kl_sld hF hS hp.1.1 hp.1.2 dL_law_601 ?_
  refine k_aload_n hF dL_law_602 rfl ?_
  refine k_iload hF dL_law_603 rfl ?_
  refine k_iconst hF dL_law_605 ci_2 ?_
  refine k_iadd hF dL_law_606 ?_
  refine kl_sld hF hS hp.2.1.1 hp.2.1.2 dL_law_607 ?_
  refine k_aload_n hF dL_law_608 rfl ?_
  refine k_iload hF dL_law_609 rfl ?_
  refine k_iconst hF dL_law_611 ci_3 ?_
  refine k_iadd hF dL_law_612 ?_
  refine kl_sld hF hS hp.2.2.1.1 hp.2.2.1.2 dL_law_613 ?_
  obtain ⟨z1, hz1, h⟩ := bind_some h
  refine kl_H hF hNc hA bc' bs' (as := [.ref (B + 0), .int p1, .int p2, .int p3]) (ct_L_shape hl (Nat.le_refl _) (Nat.add_le_add_left (Nat.le_of_ble_eq_true rfl) _) hz1) mh_L_157 rfl rfl ⟨Nat.le_of_ble_eq_true rfl, Nat.le_of_ble_eq_true rfl⟩ (Nat.le_of_ble_eq_true rfl) dL_law_614 (by omega) (by omega) ?_
  refine k_st (st2 := [.int z1.1]) rfl ?_
  refine k_istore hF (L' := [some (.ref b), some (.ref (B + 0)), some (.ref (B + 121 + 0)), some (.ref (B + 164)), some (.int i), some (.int z1.1), none]) dL_law_617 (by decide) rfl ?_
  refine k_aload_n hF dL_law_619 rfl ?_
  refine k_aload_n hF dL_law_620 rfl ?_
  refine k_iload hF dL_law_621 rfl ?_
  refine k_iconst hF dL_law_623 ci_1 ?_
  refine k_iadd hF dL_law_624 ?_
  refine kl_sld hF hS hp.1.1 hp.1.2 dL_law_625 ?_
  refine k_aload_n hF dL_law_626 rfl ?_
  refine k_iload hF dL_law_627 rfl ?_
  refine k_iconst hF dL_law_629 ci_2 ?_
  refine k_iadd hF dL_law_630 ?_
  refine kl_sld hF hS hp.2.1.1 hp.2.1.2 dL_law_631 ?_
  refine k_aload_n hF dL_law_632 rfl ?_
  refine k_iload hF dL_law_633 rfl ?_
  refine k_iconst hF dL_law_635 ci_3 ?_
  refine k_iadd hF dL_law_636 ?_
  refine kl_sld hF hS hp.2.2.1.1 hp.2.2.1.2 dL_law_637 ?_
  obtain ⟨z2, hz2, h⟩ := bind_some h
  refine kl_M hF hA (as := [.int p1, .int p2, .int p3]) (ct_X11_shape (Nat.le_add_right _ _) hz2) mv_L_160 shR_0 rfl rfl rfl ⟨Nat.le_of_ble_eq_true rfl, Nat.le_of_ble_eq_true rfl⟩ (Nat.le_of_ble_eq_true rfl) dL_law_638 ?_
  refine k_st (st2 := []) rfl ?_
  refine k_aload_n hF dL_law_641 rfl ?_
  obtain ⟨z3, hz3, h⟩ := bind_some h
  refine kl_M hF hA (as := []) (ct_X11_thrown (Nat.le_add_right _ _) hz3) mv_L_137 shR_0 rfl rfl rfl ⟨Nat.le_of_ble_eq_true rfl, Nat.le_of_ble_eq_true rfl⟩ (Nat.le_of_ble_eq_true rfl) dL_law_642 ?_
  refine k_st (st2 := [.int z3]) rfl ?_
  refine k_iload hF dL_law_645 rfl ?_
  by_cases c4 : z3 = z1.1
  · replace h := ite_t c4 h
    refine k_icmp_eq hF (tgt := 652) dL_law_647 (by decide) (fun _ => ?_) (fun c => absurd c4 c)
    refine k_goto hF (tgt := 2437) dL_law_652 (by decide) ?_
    refine k_kill 5 rfl ?_
    cases h
    exact kk
  · replace h := ite_f c4 h
    cases h
set_option maxHeartbeats 4000000 in
theorem wLaw_c7 {p : Program} {l : Launch} {e : Env} {s : State} {m : MethodId} {args : Array Value} {below : List Frame} {meth : Method} {c : Code} {Q : State → Prop} {A : Nat → Prop} {D : DD} {B : Nat} (hF : KF D B cL_law RL A 7 601024 7293034 p l e room_1 s m args below meth c) (hl : l.stackTraces = false) (hNc : KNc s) (hA : ∀ q, B ≤ q → A q) {b Ls : Nat} {xs : Nat → Int32} (hS : SC b Ls xs A s) {i p1 p2 p3 p4 : Int32} (hp : PA xs Ls i p1 p2 p3 p4) {bc bs bc' bs' : Nat} (hbc : bc' + 6 ≤ bc) (hbs : bs' + 36 ≤ bs) {σC σR : St} {v : Int64} {z : LL} (h : fLaw_c7 σC σR v p1 p2 p3 p4 = some z)
    (kk : KJ (RepL D B) A 7 601024 7293034 Q p l e room_1 s m args below meth c bc' bs' 2437 [some (.ref b), some (.ref (B + 0)), some (.ref (B + 121 + 0)), some (.ref (B + 164)), some (.int i), none, none] [] z) : KJ (RepL D B) A 7 601024 7293034 Q p l e room_1 s m args below meth c bc bs 655 [some (.ref b), some (.ref (B + 0)), some (.ref (B + 121 + 0)), some (.ref (B + 164)), some (.int i), none, none] [] (σC, σR, v) := by
  unfold fLaw_c7 at h
  refine k_aload_n hF dL_law_655 rfl ?_
  refine k_aload_n hF dL_law_656 rfl ?_
  refine k_iload hF dL_law_657 rfl ?_
  refine k_iconst hF dL_law_659 ci_1 ?_
  refine k_iadd hF dL_law_660 ?_
  refine kl_sld hF hS hp.1.1 hp.1.2 dL_law_661 ?_
  refine k_aload_n hF dL_law_662 rfl ?_
  refine k_iload hF dL_law_663 rfl ?_
  refine k_iconst hF dL_law_665 ci_2 ?_
  refine k_iadd hF dL_law_666 ?_
  refine kl_sld hF hS hp.2.1.1 hp.2.1.2 dL_law_667 ?_
  refine k_aload_n hF dL_law_668 rfl ?_
  obtain ⟨z1, hz1, h⟩ := bind_some h
  refine kl_H hF hNc hA bc' bs' (as := [.ref (B + 0), .int p1, .int p2, .ref (B + 164)]) (ct_L_move hl (Nat.le_refl _) (Nat.add_le_add_left (Nat.le_of_ble_eq_true rfl) _) hz1) mh_L_161 rfl rfl ⟨Nat.le_of_ble_eq_true rfl, Nat.le_of_ble_eq_true rfl⟩ (Nat.le_of_ble_eq_true rfl) dL_law_669 (by omega) (by omega) ?_
  refine k_st (st2 := [.int z1.1]) rfl ?_
  refine k_istore hF (L' := [some (.ref b), some (.ref (B + 0)), some (.ref (B + 121 + 0)), some (.ref (B + 164)), some (.int i), some (.int z1.1), none]) dL_law_672 (by decide) rfl ?_
  refine k_aload_n hF dL_law_674 rfl ?_
  refine k_aload_n hF dL_law_675 rfl ?_
  refine k_iload hF dL_law_676 rfl ?_
  refine k_iconst hF dL_law_678 ci_1 ?_
  refine k_iadd hF dL_law_679 ?_
  refine kl_sld hF hS hp.1.1 hp.1.2 dL_law_680 ?_
  refine k_aload_n hF dL_law_681 rfl ?_
  refine k_iload hF dL_law_682 rfl ?_
  refine k_iconst hF dL_law_684 ci_2 ?_
  refine k_iadd hF dL_law_685 ?_
  refine kl_sld hF hS hp.2.1.1 hp.2.1.2 dL_law_686 ?_
  obtain ⟨z2, hz2, h⟩ := bind_some h
  refine kl_M hF hA (as := [.int p1, .int p2]) (ct_X11_move (Nat.le_add_right _ _) hz2) mv_L_163 shR_0 rfl rfl rfl ⟨Nat.le_of_ble_eq_true rfl, Nat.le_of_ble_eq_true rfl⟩ (Nat.le_of_ble_eq_true rfl) dL_law_687 ?_
  refine k_st (st2 := [.int z2.1]) rfl ?_
  refine k_istore hF (L' := [some (.ref b), some (.ref (B + 0)), some (.ref (B + 121 + 0)), some (.ref (B + 164)), some (.int i), some (.int z1.1), some (.int z2.1)]) dL_law_690 (by decide) rfl ?_
  refine k_aload_n hF dL_law_692 rfl ?_
  obtain ⟨z3, hz3, h⟩ := bind_some h
  refine kl_M hF hA (as := []) (ct_X11_thrown (Nat.le_add_right _ _) hz3) mv_L_137 shR_0 rfl rfl rfl ⟨Nat.le_of_ble_eq_true rfl, Nat.le_of_ble_eq_true rfl⟩ (Nat.le_of_ble_eq_true rfl) dL_law_693 ?_
  refine k_st (st2 := [.int z3]) rfl ?_
  refine k_iload hF dL_law_696 rfl ?_
  by_cases c4 : z3 = z1.1
  · replace h := ite_t c4 h
    refine k_icmp_eq hF (tgt := 703) dL_law_698 (by decide) (fun _ => ?_) (fun c => absurd c4 c)
    refine k_iload hF dL_law_703 rfl ?_
    by_cases c5 : z1.1 = 0
    · replace h := ite_t c5 h
      refine k_if_ne hF (tgt := 720) dL_law_705 (by decide) (fun c => absurd c5 c) (fun _ => ?_)
      refine k_aload_n hF dL_law_708 rfl ?_
      refine k_iconst hF dL_law_709 ci_0 ?_
      refine kl_lald hF dL_law_710 ?_
      refine k_iload hF dL_law_711 rfl ?_
      refine k_i2l hF dL_law_713 ?_
      refine k_lcmp hF dL_law_714 ?_
      by_cases c6 : (lg_cmp z1.2.2 z2.1.toInt64) = 0
      · replace h := ite_t c6 h
        refine k_if_eq hF (tgt := 720) dL_law_715 (by decide) (fun _ => ?_) (fun c => absurd c6 c)
        refine k_goto hF (tgt := 2437) dL_law_720 (by decide) ?_
        refine k_kill 5 rfl ?_
        refine k_kill 6 rfl ?_
        cases h
        exact kk
      · replace h := ite_f c6 h
        cases h
    · replace h := ite_f c5 h
      refine k_if_ne hF (tgt := 720) dL_law_705 (by decide) (fun _ => ?_) (fun c => absurd c c5)
      refine k_goto hF (tgt := 2437) dL_law_720 (by decide) ?_
      refine k_kill 5 rfl ?_
      refine k_kill 6 rfl ?_
      cases h
      exact kk
  · replace h := ite_f c4 h
    cases h
set_option maxHeartbeats 4000000 in
theorem wLaw_c8 {p : Program} {l : Launch} {e : Env} {s : State} {m : MethodId} {args : Array Value} {below : List Frame} {meth : Method} {c : Code} {Q : State → Prop} {A : Nat → Prop} {D : DD} {B : Nat} (hF : KF D B cL_law RL A 7 601024 7293034 p l e room_1 s m args below meth c) (hl : l.stackTraces = false) (hNc : KNc s) (hA : ∀ q, B ≤ q → A q) {b Ls : Nat} {xs : Nat → Int32} (hS : SC b Ls xs A s) {i p1 p2 p3 p4 : Int32} (hp : PA xs Ls i p1 p2 p3 p4) {bc bs bc' bs' : Nat} (hbc : bc' + 6 ≤ bc) (hbs : bs' + 36 ≤ bs) {σC σR : St} {v : Int64} {z : LL} (h : fLaw_c8 σC σR v p1 p2 p3 p4 = some z)
    (kk : KJ (RepL D B) A 7 601024 7293034 Q p l e room_1 s m args below meth c bc' bs' 2437 [some (.ref b), some (.ref (B + 0)), some (.ref (B + 121 + 0)), some (.ref (B + 164)), some (.int i), none, none] [] z) : KJ (RepL D B) A 7 601024 7293034 Q p l e room_1 s m args below meth c bc bs 723 [some (.ref b), some (.ref (B + 0)), some (.ref (B + 121 + 0)), some (.ref (B + 164)), some (.int i), none, none] [] (σC, σR, v) := by
  unfold fLaw_c8 at h
  refine k_aload_n hF dL_law_723 rfl ?_
  obtain ⟨z1, hz1, h⟩ := bind_some h
  refine kl_C hF hA (as := []) (ct_X10_shift (Nat.le_refl _) hz1) mv_L_164 shC_0 rfl rfl rfl ⟨Nat.le_of_ble_eq_true rfl, Nat.le_of_ble_eq_true rfl⟩ (Nat.le_of_ble_eq_true rfl) dL_law_724 ?_
  refine k_st (st2 := [.int z1.1]) rfl ?_
  refine k_aload_n hF dL_law_727 rfl ?_
  obtain ⟨z2, hz2, h⟩ := bind_some h
  refine kl_M hF hA (as := []) (ct_X11_shift (Nat.le_add_right _ _) hz2) mv_L_167 shR_0 rfl rfl rfl ⟨Nat.le_of_ble_eq_true rfl, Nat.le_of_ble_eq_true rfl⟩ (Nat.le_of_ble_eq_true rfl) dL_law_728 ?_
  refine k_st (st2 := [.int z2.1, .int z1.1]) rfl ?_
  by_cases c3 : z1.1 = z2.1
  · replace h := ite_t c3 h
    refine k_icmp_eq hF (tgt := 2437) dL_law_731 (by decide) (fun _ => ?_) (fun c => absurd c3 c)
    refine k_bud (bc' := bc') (bs' := bs') (by omega) (by omega) ?_
    cases h
    exact kk
  · replace h := ite_f c3 h
    cases h
set_option maxHeartbeats 4000000 in
theorem wLaw_c9 {p : Program} {l : Launch} {e : Env} {s : State} {m : MethodId} {args : Array Value} {below : List Frame} {meth : Method} {c : Code} {Q : State → Prop} {A : Nat → Prop} {D : DD} {B : Nat} (hF : KF D B cL_law RL A 7 601024 7293034 p l e room_1 s m args below meth c) (hl : l.stackTraces = false) (hNc : KNc s) (hA : ∀ q, B ≤ q → A q) {b Ls : Nat} {xs : Nat → Int32} (hS : SC b Ls xs A s) {i p1 p2 p3 p4 : Int32} (hp : PA xs Ls i p1 p2 p3 p4) {bc bs bc' bs' : Nat} (hbc : bc' + 6 ≤ bc) (hbs : bs' + 36 ≤ bs) {σC σR : St} {v : Int64} {z : LL} (h : fLaw_c9 σC σR v p1 p2 p3 p4 = some z)
    (kk : KJ (RepL D B) A 7 601024 7293034 Q p l e room_1 s m args below meth c bc' bs' 2437 [some (.ref b), some (.ref (B + 0)), some (.ref (B + 121 + 0)), some (.ref (B + 164)), some (.int i), none, none] [] z) : KJ (RepL D B) A 7 601024 7293034 Q p l e room_1 s m args below meth c bc bs 736 [some (.ref b), some (.ref (B + 0)), some (.ref (B + 121 + 0)), some (.ref (B + 164)), some (.int i), none, none] [] (σC, σR, v) := by
  unfold fLaw_c9 at h
  refine k_aload_n hF dL_law_736 rfl ?_
  refine k_aload_n hF dL_law_737 rfl ?_
  refine k_iload hF dL_law_738 rfl ?_
  refine k_iconst hF dL_law_740 ci_1 ?_
  refine k_iadd hF dL_law_741 ?_
  refine kl_sld hF hS hp.1.1 hp.1.2 dL_law_742 ?_
  refine k_aload_n hF dL_law_743 rfl ?_
  obtain ⟨z1, hz1, h⟩ := bind_some h
  refine kl_H hF hNc hA bc' bs' (as := [.ref (B + 0), .int p1, .ref (B + 164)]) (ct_L_toggle hl (Nat.le_refl _) (Nat.add_le_add_left (Nat.le_of_ble_eq_true rfl) _) hz1) mh_L_168 rfl rfl ⟨Nat.le_of_ble_eq_true rfl, Nat.le_of_ble_eq_true rfl⟩ (Nat.le_of_ble_eq_true rfl) dL_law_744 (by omega) (by omega) ?_
  refine k_st (st2 := [.int z1.1]) rfl ?_
  refine k_istore hF (L' := [some (.ref b), some (.ref (B + 0)), some (.ref (B + 121 + 0)), some (.ref (B + 164)), some (.int i), some (.int z1.1), none]) dL_law_747 (by decide) rfl ?_
  refine k_aload_n hF dL_law_749 rfl ?_
  refine k_aload_n hF dL_law_750 rfl ?_
  refine k_iload hF dL_law_751 rfl ?_
  refine k_iconst hF dL_law_753 ci_1 ?_
  refine k_iadd hF dL_law_754 ?_
  refine kl_sld hF hS hp.1.1 hp.1.2 dL_law_755 ?_
  obtain ⟨z2, hz2, h⟩ := bind_some h
  refine kl_M hF hA (as := [.int p1]) (ct_X11_toggle (Nat.le_add_right _ _) hz2) mv_L_170 shR_0 rfl rfl rfl ⟨Nat.le_of_ble_eq_true rfl, Nat.le_of_ble_eq_true rfl⟩ (Nat.le_of_ble_eq_true rfl) dL_law_756 ?_
  refine k_st (st2 := [.int z2.1]) rfl ?_
  refine k_istore hF (L' := [some (.ref b), some (.ref (B + 0)), some (.ref (B + 121 + 0)), some (.ref (B + 164)), some (.int i), some (.int z1.1), some (.int z2.1)]) dL_law_759 (by decide) rfl ?_
  refine k_aload_n hF dL_law_761 rfl ?_
  obtain ⟨z3, hz3, h⟩ := bind_some h
  refine kl_M hF hA (as := []) (ct_X11_thrown (Nat.le_add_right _ _) hz3) mv_L_137 shR_0 rfl rfl rfl ⟨Nat.le_of_ble_eq_true rfl, Nat.le_of_ble_eq_true rfl⟩ (Nat.le_of_ble_eq_true rfl) dL_law_762 ?_
  refine k_st (st2 := [.int z3]) rfl ?_
  refine k_iload hF dL_law_765 rfl ?_
  by_cases c4 : z3 = z1.1
  · replace h := ite_t c4 h
    refine k_icmp_eq hF (tgt := 772) dL_law_767 (by decide) (fun _ => ?_) (fun c => absurd c4 c)
    refine k_iload hF dL_law_772 rfl ?_
    by_cases c5 : z1.1 = 0
    · replace h := ite_t c5 h
      refine k_if_ne hF (tgt := 796) dL_law_774 (by decide) (fun c => absurd c5 c) (fun _ => ?_)
      refine k_aload_n hF dL_law_777 rfl ?_
      refine k_iconst hF dL_law_778 ci_0 ?_
      refine kl_lald hF dL_law_779 ?_
      refine k_iload hF dL_law_780 rfl ?_
      by_cases c6 : z2.1 = 0
      · replace h := ite_t c6 h
        refine k_if_eq hF (tgt := 789) dL_law_782 (by decide) (fun _ => ?_) (fun c => absurd c6 c)
        refine k_lconst hF (v := (0 : Int64)) dL_law_789 (by decide) ?_
        refine k_lcmp hF dL_law_790 ?_
        by_cases c7 : (lg_cmp z1.2.2 (0 : Int64)) = 0
        · replace h := ite_t c7 h
          refine k_if_eq hF (tgt := 796) dL_law_791 (by decide) (fun _ => ?_) (fun c => absurd c7 c)
          refine k_goto hF (tgt := 2437) dL_law_796 (by decide) ?_
          refine k_kill 5 rfl ?_
          refine k_kill 6 rfl ?_
          cases h
          exact kk
        · replace h := ite_f c7 h
          cases h
      · replace h := ite_f c6 h
        refine k_if_eq hF (tgt := 789) dL_law_782 (by decide) (fun c => absurd c c6) (fun _ => ?_)
        refine k_lconst hF (v := (1 : Int64)) dL_law_785 (by decide) ?_
        refine k_goto hF (tgt := 790) dL_law_786 (by decide) ?_
        refine k_lcmp hF dL_law_790 ?_
        by_cases c8 : (lg_cmp z1.2.2 (1 : Int64)) = 0
        · replace h := ite_t c8 h
          refine k_if_eq hF (tgt := 796) dL_law_791 (by decide) (fun _ => ?_) (fun c => absurd c8 c)
          refine k_goto hF (tgt := 2437) dL_law_796 (by decide) ?_
          refine k_kill 5 rfl ?_
          refine k_kill 6 rfl ?_
          cases h
          exact kk
        · replace h := ite_f c8 h
          cases h
    · replace h := ite_f c5 h
      refine k_if_ne hF (tgt := 796) dL_law_774 (by decide) (fun _ => ?_) (fun c => absurd c c5)
      refine k_goto hF (tgt := 2437) dL_law_796 (by decide) ?_
      refine k_kill 5 rfl ?_
      refine k_kill 6 rfl ?_
      cases h
      exact kk
  · replace h := ite_f c4 h
    cases h
set_option maxHeartbeats 4000000 in
theorem wLaw_c10 {p : Program} {l : Launch} {e : Env} {s : State} {m : MethodId} {args : Array Value} {below : List Frame} {meth : Method} {c : Code} {Q : State → Prop} {A : Nat → Prop} {D : DD} {B : Nat} (hF : KF D B cL_law RL A 7 601024 7293034 p l e room_1 s m args below meth c) (hl : l.stackTraces = false) (hNc : KNc s) (hA : ∀ q, B ≤ q → A q) {b Ls : Nat} {xs : Nat → Int32} (hS : SC b Ls xs A s) {i p1 p2 p3 p4 : Int32} (hp : PA xs Ls i p1 p2 p3 p4) {bc bs bc' bs' : Nat} (hbc : bc' + 6 ≤ bc) (hbs : bs' + 36 ≤ bs) {σC σR : St} {v : Int64} {z : LL} (h : fLaw_c10 σC σR v p1 p2 p3 p4 = some z)
    (kk : KJ (RepL D B) A 7 601024 7293034 Q p l e room_1 s m args below meth c bc' bs' 2437 [some (.ref b), some (.ref (B + 0)), some (.ref (B + 121 + 0)), some (.ref (B + 164)), some (.int i), none, none] [] z) : KJ (RepL D B) A 7 601024 7293034 Q p l e room_1 s m args below meth c bc bs 799 [some (.ref b), some (.ref (B + 0)), some (.ref (B + 121 + 0)), some (.ref (B + 164)), some (.int i), none, none] [] (σC, σR, v) := by
  unfold fLaw_c10 at h
  refine k_aload_n hF dL_law_799 rfl ?_
  refine k_aload_n hF dL_law_800 rfl ?_
  refine k_iload hF dL_law_801 rfl ?_
  refine k_iconst hF dL_law_803 ci_1 ?_
  refine k_iadd hF dL_law_804 ?_
  refine kl_sld hF hS hp.1.1 hp.1.2 dL_law_805 ?_
  refine k_aload_n hF dL_law_806 rfl ?_
  obtain ⟨z1, hz1, h⟩ := bind_some h
  refine kl_H hF hNc hA bc' bs' (as := [.ref (B + 0), .int p1, .ref (B + 164)]) (ct_L_machine hl (Nat.le_refl _) (Nat.add_le_add_left (Nat.le_of_ble_eq_true rfl) _) hz1) mh_L_171 rfl rfl ⟨Nat.le_of_ble_eq_true rfl, Nat.le_of_ble_eq_true rfl⟩ (Nat.le_of_ble_eq_true rfl) dL_law_807 (by omega) (by omega) ?_
  refine k_st (st2 := [.int z1.1]) rfl ?_
  refine k_istore hF (L' := [some (.ref b), some (.ref (B + 0)), some (.ref (B + 121 + 0)), some (.ref (B + 164)), some (.int i), some (.int z1.1), none]) dL_law_810 (by decide) rfl ?_
  refine k_aload_n hF dL_law_812 rfl ?_
  refine k_aload_n hF dL_law_813 rfl ?_
  refine k_iload hF dL_law_814 rfl ?_
  refine k_iconst hF dL_law_816 ci_1 ?_
  refine k_iadd hF dL_law_817 ?_
  refine kl_sld hF hS hp.1.1 hp.1.2 dL_law_818 ?_
  obtain ⟨z2, hz2, h⟩ := bind_some h
  refine kl_M hF hA (as := [.int p1]) (ct_X11_machine (Nat.le_add_right _ _) hz2) mv_L_173 shR_0 rfl rfl rfl ⟨Nat.le_of_ble_eq_true rfl, Nat.le_of_ble_eq_true rfl⟩ (Nat.le_of_ble_eq_true rfl) dL_law_819 ?_
  refine k_st (st2 := [.int z2.1]) rfl ?_
  refine k_istore hF (L' := [some (.ref b), some (.ref (B + 0)), some (.ref (B + 121 + 0)), some (.ref (B + 164)), some (.int i), some (.int z1.1), some (.int z2.1)]) dL_law_822 (by decide) rfl ?_
  refine k_aload_n hF dL_law_824 rfl ?_
  obtain ⟨z3, hz3, h⟩ := bind_some h
  refine kl_M hF hA (as := []) (ct_X11_thrown (Nat.le_add_right _ _) hz3) mv_L_137 shR_0 rfl rfl rfl ⟨Nat.le_of_ble_eq_true rfl, Nat.le_of_ble_eq_true rfl⟩ (Nat.le_of_ble_eq_true rfl) dL_law_825 ?_
  refine k_st (st2 := [.int z3]) rfl ?_
  refine k_iload hF dL_law_828 rfl ?_
  by_cases c4 : z3 = z1.1
  · replace h := ite_t c4 h
    refine k_icmp_eq hF (tgt := 835) dL_law_830 (by decide) (fun _ => ?_) (fun c => absurd c4 c)
    refine k_iload hF dL_law_835 rfl ?_
    by_cases c5 : z1.1 = 0
    · replace h := ite_t c5 h
      refine k_if_ne hF (tgt := 852) dL_law_837 (by decide) (fun c => absurd c5 c) (fun _ => ?_)
      refine k_aload_n hF dL_law_840 rfl ?_
      refine k_iconst hF dL_law_841 ci_0 ?_
      refine kl_lald hF dL_law_842 ?_
      refine k_iload hF dL_law_843 rfl ?_
      refine k_i2l hF dL_law_845 ?_
      refine k_lcmp hF dL_law_846 ?_
      by_cases c6 : (lg_cmp z1.2.2 z2.1.toInt64) = 0
      · replace h := ite_t c6 h
        refine k_if_eq hF (tgt := 852) dL_law_847 (by decide) (fun _ => ?_) (fun c => absurd c6 c)
        refine k_goto hF (tgt := 2437) dL_law_852 (by decide) ?_
        refine k_kill 5 rfl ?_
        refine k_kill 6 rfl ?_
        cases h
        exact kk
      · replace h := ite_f c6 h
        cases h
    · replace h := ite_f c5 h
      refine k_if_ne hF (tgt := 852) dL_law_837 (by decide) (fun _ => ?_) (fun c => absurd c c5)
      refine k_goto hF (tgt := 2437) dL_law_852 (by decide) ?_
      refine k_kill 5 rfl ?_
      refine k_kill 6 rfl ?_
      cases h
      exact kk
  · replace h := ite_f c4 h
    cases h
set_option maxHeartbeats 4000000 in
theorem wLaw_c11 {p : Program} {l : Launch} {e : Env} {s : State} {m : MethodId} {args : Array Value} {below : List Frame} {meth : Method} {c : Code} {Q : State → Prop} {A : Nat → Prop} {D : DD} {B : Nat} (hF : KF D B cL_law RL A 7 601024 7293034 p l e room_1 s m args below meth c) (hl : l.stackTraces = false) (hNc : KNc s) (hA : ∀ q, B ≤ q → A q) {b Ls : Nat} {xs : Nat → Int32} (hS : SC b Ls xs A s) {i p1 p2 p3 p4 : Int32} (hp : PA xs Ls i p1 p2 p3 p4) {bc bs bc' bs' : Nat} (hbc : bc' + 6 ≤ bc) (hbs : bs' + 36 ≤ bs) {σC σR : St} {v : Int64} {z : LL} (h : fLaw_c11 σC σR v p1 p2 p3 p4 = some z)
    (kk : KJ (RepL D B) A 7 601024 7293034 Q p l e room_1 s m args below meth c bc' bs' 2437 [some (.ref b), some (.ref (B + 0)), some (.ref (B + 121 + 0)), some (.ref (B + 164)), some (.int i), none, none] [] z) : KJ (RepL D B) A 7 601024 7293034 Q p l e room_1 s m args below meth c bc bs 855 [some (.ref b), some (.ref (B + 0)), some (.ref (B + 121 + 0)), some (.ref (B + 164)), some (.int i), none, none] [] (σC, σR, v) := by
  unfold fLaw_c11 at h
  refine k_aload_n hF dL_law_855 rfl ?_
  obtain ⟨z1, hz1, h⟩ := bind_some h
  refine kl_C hF hA (as := []) (ct_X10_cut (Nat.le_refl _) hz1) mv_L_174 shC_0 rfl rfl rfl ⟨Nat.le_of_ble_eq_true rfl, Nat.le_of_ble_eq_true rfl⟩ (Nat.le_of_ble_eq_true rfl) dL_law_856 ?_
  refine k_st (st2 := [.int z1]) rfl ?_
  refine k_aload_n hF dL_law_859 rfl ?_
  obtain ⟨z2, hz2, h⟩ := bind_some h
  refine kl_M hF hA (as := []) (ct_X11_cut (Nat.le_add_right _ _) hz2) mv_L_177 shR_0 rfl rfl rfl ⟨Nat.le_of_ble_eq_true rfl, Nat.le_of_ble_eq_true rfl⟩ (Nat.le_of_ble_eq_true rfl) dL_law_860 ?_
  refine k_st (st2 := [.int z2.1, .int z1]) rfl ?_
  by_cases c3 : z1 = z2.1
  · replace h := ite_t c3 h
    refine k_icmp_eq hF (tgt := 2437) dL_law_863 (by decide) (fun _ => ?_) (fun c => absurd c3 c)
    refine k_bud (bc' := bc') (bs' := bs') (by omega) (by omega) ?_
    cases h
    exact kk
  · replace h := ite_f c3 h
    cases h
set_option maxHeartbeats 4000000 in
theorem wLaw_c12 {p : Program} {l : Launch} {e : Env} {s : State} {m : MethodId} {args : Array Value} {below : List Frame} {meth : Method} {c : Code} {Q : State → Prop} {A : Nat → Prop} {D : DD} {B : Nat} (hF : KF D B cL_law RL A 7 601024 7293034 p l e room_1 s m args below meth c) (hl : l.stackTraces = false) (hNc : KNc s) (hA : ∀ q, B ≤ q → A q) {b Ls : Nat} {xs : Nat → Int32} (hS : SC b Ls xs A s) {i p1 p2 p3 p4 : Int32} (hp : PA xs Ls i p1 p2 p3 p4) {bc bs bc' bs' : Nat} (hbc : bc' + 6 ≤ bc) (hbs : bs' + 36 ≤ bs) {σC σR : St} {v : Int64} {z : LL} (h : fLaw_c12 σC σR v p1 p2 p3 p4 = some z)
    (kk : KJ (RepL D B) A 7 601024 7293034 Q p l e room_1 s m args below meth c bc' bs' 2437 [some (.ref b), some (.ref (B + 0)), some (.ref (B + 121 + 0)), some (.ref (B + 164)), some (.int i), none, none] [] z) : KJ (RepL D B) A 7 601024 7293034 Q p l e room_1 s m args below meth c bc bs 868 [some (.ref b), some (.ref (B + 0)), some (.ref (B + 121 + 0)), some (.ref (B + 164)), some (.int i), none, none] [] (σC, σR, v) := by
  unfold fLaw_c12 at h
  refine k_aload_n hF dL_law_868 rfl ?_
  refine k_aload_n hF dL_law_869 rfl ?_
  refine k_iload hF dL_law_870 rfl ?_
  refine k_iconst hF dL_law_872 ci_1 ?_
  refine k_iadd hF dL_law_873 ?_
  refine kl_sld hF hS hp.1.1 hp.1.2 dL_law_874 ?_
  refine k_aload_n hF dL_law_875 rfl ?_
  obtain ⟨z1, hz1, h⟩ := bind_some h
  refine kl_H hF hNc hA bc' bs' (as := [.ref (B + 0), .int p1, .ref (B + 164)]) (ct_L_copies hl (Nat.le_refl _) (Nat.add_le_add_left (Nat.le_of_ble_eq_true rfl) _) hz1) mh_L_178 rfl rfl ⟨Nat.le_of_ble_eq_true rfl, Nat.le_of_ble_eq_true rfl⟩ (Nat.le_of_ble_eq_true rfl) dL_law_876 (by omega) (by omega) ?_
  refine k_st (st2 := [.int z1.1]) rfl ?_
  refine k_istore hF (L' := [some (.ref b), some (.ref (B + 0)), some (.ref (B + 121 + 0)), some (.ref (B + 164)), some (.int i), some (.int z1.1), none]) dL_law_879 (by decide) rfl ?_
  refine k_aload_n hF dL_law_881 rfl ?_
  refine k_aload_n hF dL_law_882 rfl ?_
  refine k_iload hF dL_law_883 rfl ?_
  refine k_iconst hF dL_law_885 ci_1 ?_
  refine k_iadd hF dL_law_886 ?_
  refine kl_sld hF hS hp.1.1 hp.1.2 dL_law_887 ?_
  obtain ⟨z2, hz2, h⟩ := bind_some h
  refine kl_M hF hA (as := [.int p1]) (ct_X11_copies (Nat.le_add_right _ _) hz2) mv_L_180 shR_0 rfl rfl rfl ⟨Nat.le_of_ble_eq_true rfl, Nat.le_of_ble_eq_true rfl⟩ (Nat.le_of_ble_eq_true rfl) dL_law_888 ?_
  refine k_st (st2 := [.int z2.1]) rfl ?_
  refine k_istore hF (L' := [some (.ref b), some (.ref (B + 0)), some (.ref (B + 121 + 0)), some (.ref (B + 164)), some (.int i), some (.int z1.1), some (.int z2.1)]) dL_law_891 (by decide) rfl ?_
  refine k_aload_n hF dL_law_893 rfl ?_
  obtain ⟨z3, hz3, h⟩ := bind_some h
  refine kl_M hF hA (as := []) (ct_X11_thrown (Nat.le_add_right _ _) hz3) mv_L_137 shR_0 rfl rfl rfl ⟨Nat.le_of_ble_eq_true rfl, Nat.le_of_ble_eq_true rfl⟩ (Nat.le_of_ble_eq_true rfl) dL_law_894 ?_
  refine k_st (st2 := [.int z3]) rfl ?_
  refine k_iload hF dL_law_897 rfl ?_
  by_cases c4 : z3 = z1.1
  · replace h := ite_t c4 h
    refine k_icmp_eq hF (tgt := 904) dL_law_899 (by decide) (fun _ => ?_) (fun c => absurd c4 c)
    refine k_iload hF dL_law_904 rfl ?_
    by_cases c5 : z1.1 = 0
    · replace h := ite_t c5 h
      refine k_if_ne hF (tgt := 921) dL_law_906 (by decide) (fun c => absurd c5 c) (fun _ => ?_)
      refine k_aload_n hF dL_law_909 rfl ?_
      refine k_iconst hF dL_law_910 ci_0 ?_
      refine kl_lald hF dL_law_911 ?_
      refine k_iload hF dL_law_912 rfl ?_
      refine k_i2l hF dL_law_914 ?_
      refine k_lcmp hF dL_law_915 ?_
      by_cases c6 : (lg_cmp z1.2.2 z2.1.toInt64) = 0
      · replace h := ite_t c6 h
        refine k_if_eq hF (tgt := 921) dL_law_916 (by decide) (fun _ => ?_) (fun c => absurd c6 c)
        refine k_goto hF (tgt := 2437) dL_law_921 (by decide) ?_
        refine k_kill 5 rfl ?_
        refine k_kill 6 rfl ?_
        cases h
        exact kk
      · replace h := ite_f c6 h
        cases h
    · replace h := ite_f c5 h
      refine k_if_ne hF (tgt := 921) dL_law_906 (by decide) (fun _ => ?_) (fun c => absurd c c5)
      refine k_goto hF (tgt := 2437) dL_law_921 (by decide) ?_
      refine k_kill 5 rfl ?_
      refine k_kill 6 rfl ?_
      cases h
      exact kk
  · replace h := ite_f c4 h
    cases h
set_option maxHeartbeats 4000000 in
theorem wLaw_c13 {p : Program} {l : Launch} {e : Env} {s : State} {m : MethodId} {args : Array Value} {below : List Frame} {meth : Method} {c : Code} {Q : State → Prop} {A : Nat → Prop} {D : DD} {B : Nat} (hF : KF D B cL_law RL A 7 601024 7293034 p l e room_1 s m args below meth c) (hl : l.stackTraces = false) (hNc : KNc s) (hA : ∀ q, B ≤ q → A q) {b Ls : Nat} {xs : Nat → Int32} (hS : SC b Ls xs A s) {i p1 p2 p3 p4 : Int32} (hp : PA xs Ls i p1 p2 p3 p4) {bc bs bc' bs' : Nat} (hbc : bc' + 6 ≤ bc) (hbs : bs' + 36 ≤ bs) {σC σR : St} {v : Int64} {z : LL} (h : fLaw_c13 σC σR v p1 p2 p3 p4 = some z)
    (kk : KJ (RepL D B) A 7 601024 7293034 Q p l e room_1 s m args below meth c bc' bs' 2437 [some (.ref b), some (.ref (B + 0)), some (.ref (B + 121 + 0)), some (.ref (B + 164)), some (.int i), none, none] [] z) : KJ (RepL D B) A 7 601024 7293034 Q p l e room_1 s m args below meth c bc bs 924 [some (.ref b), some (.ref (B + 0)), some (.ref (B + 121 + 0)), some (.ref (B + 164)), some (.int i), none, none] [] (σC, σR, v) := by
  unfold fLaw_c13 at h
  refine k_aload_n hF dL_law_924 rfl ?_
  refine k_aload_n hF dL_law_925 rfl ?_
  obtain ⟨z1, hz1, h⟩ := bind_some h
  refine kl_H hF hNc hA bc' bs' (as := [.ref (B + 0), .ref (B + 164)]) (ct_L_begin hl (Nat.le_refl _) (Nat.add_le_add_left (Nat.le_of_ble_eq_true rfl) _) hz1) mh_L_181 rfl rfl ⟨Nat.le_of_ble_eq_true rfl, Nat.le_of_ble_eq_true rfl⟩ (Nat.le_of_ble_eq_true rfl) dL_law_926 (by omega) (by omega) ?_
  refine k_st (st2 := [.int z1.1]) rfl ?_
  refine k_istore hF (L' := [some (.ref b), some (.ref (B + 0)), some (.ref (B + 121 + 0)), some (.ref (B + 164)), some (.int i), some (.int z1.1), none]) dL_law_929 (by decide) rfl ?_
  refine k_aload_n hF dL_law_931 rfl ?_
  obtain ⟨z2, hz2, h⟩ := bind_some h
  refine kl_M hF hA (as := []) (ct_X11_begin (Nat.le_add_right _ _) hz2) mv_L_184 shR_0 rfl rfl rfl ⟨Nat.le_of_ble_eq_true rfl, Nat.le_of_ble_eq_true rfl⟩ (Nat.le_of_ble_eq_true rfl) dL_law_932 ?_
  refine k_st (st2 := [.int z2.1]) rfl ?_
  refine k_istore hF (L' := [some (.ref b), some (.ref (B + 0)), some (.ref (B + 121 + 0)), some (.ref (B + 164)), some (.int i), some (.int z1.1), some (.int z2.1)]) dL_law_935 (by decide) rfl ?_
  refine k_aload_n hF dL_law_937 rfl ?_
  obtain ⟨z3, hz3, h⟩ := bind_some h
  refine kl_M hF hA (as := []) (ct_X11_thrown (Nat.le_add_right _ _) hz3) mv_L_137 shR_0 rfl rfl rfl ⟨Nat.le_of_ble_eq_true rfl, Nat.le_of_ble_eq_true rfl⟩ (Nat.le_of_ble_eq_true rfl) dL_law_938 ?_
  refine k_st (st2 := [.int z3]) rfl ?_
  refine k_iload hF dL_law_941 rfl ?_
  by_cases c4 : z3 = z1.1
  · replace h := ite_t c4 h
    refine k_icmp_eq hF (tgt := 948) dL_law_943 (by decide) (fun _ => ?_) (fun c => absurd c4 c)
    refine k_iload hF dL_law_948 rfl ?_
    by_cases c5 : z1.1 = 0
    · replace h := ite_t c5 h
      refine k_if_ne hF (tgt := 965) dL_law_950 (by decide) (fun c => absurd c5 c) (fun _ => ?_)
      refine k_aload_n hF dL_law_953 rfl ?_
      refine k_iconst hF dL_law_954 ci_0 ?_
      refine kl_lald hF dL_law_955 ?_
      refine k_iload hF dL_law_956 rfl ?_
      refine k_i2l hF dL_law_958 ?_
      refine k_lcmp hF dL_law_959 ?_
      by_cases c6 : (lg_cmp z1.2.2 z2.1.toInt64) = 0
      · replace h := ite_t c6 h
        refine k_if_eq hF (tgt := 965) dL_law_960 (by decide) (fun _ => ?_) (fun c => absurd c6 c)
        refine k_goto hF (tgt := 2437) dL_law_965 (by decide) ?_
        refine k_kill 5 rfl ?_
        refine k_kill 6 rfl ?_
        cases h
        exact kk
      · replace h := ite_f c6 h
        cases h
    · replace h := ite_f c5 h
      refine k_if_ne hF (tgt := 965) dL_law_950 (by decide) (fun _ => ?_) (fun c => absurd c c5)
      refine k_goto hF (tgt := 2437) dL_law_965 (by decide) ?_
      refine k_kill 5 rfl ?_
      refine k_kill 6 rfl ?_
      cases h
      exact kk
  · replace h := ite_f c4 h
    cases h
set_option maxHeartbeats 4000000 in
theorem wLaw_c14 {p : Program} {l : Launch} {e : Env} {s : State} {m : MethodId} {args : Array Value} {below : List Frame} {meth : Method} {c : Code} {Q : State → Prop} {A : Nat → Prop} {D : DD} {B : Nat} (hF : KF D B cL_law RL A 7 601024 7293034 p l e room_1 s m args below meth c) (hl : l.stackTraces = false) (hNc : KNc s) (hA : ∀ q, B ≤ q → A q) {b Ls : Nat} {xs : Nat → Int32} (hS : SC b Ls xs A s) {i p1 p2 p3 p4 : Int32} (hp : PA xs Ls i p1 p2 p3 p4) {bc bs bc' bs' : Nat} (hbc : bc' + 6 ≤ bc) (hbs : bs' + 36 ≤ bs) {σC σR : St} {v : Int64} {z : LL} (h : fLaw_c14 σC σR v p1 p2 p3 p4 = some z)
    (kk : KJ (RepL D B) A 7 601024 7293034 Q p l e room_1 s m args below meth c bc' bs' 2437 [some (.ref b), some (.ref (B + 0)), some (.ref (B + 121 + 0)), some (.ref (B + 164)), some (.int i), none, none] [] z) : KJ (RepL D B) A 7 601024 7293034 Q p l e room_1 s m args below meth c bc bs 968 [some (.ref b), some (.ref (B + 0)), some (.ref (B + 121 + 0)), some (.ref (B + 164)), some (.int i), none, none] [] (σC, σR, v) := by
  unfold fLaw_c14 at h
  refine k_aload_n hF dL_law_968 rfl ?_
  refine k_aload_n hF dL_law_969 rfl ?_
  refine k_iload hF dL_law_970 rfl ?_
  refine k_iconst hF dL_law_972 ci_1 ?_
  refine k_iadd hF dL_law_973 ?_
  refine kl_sld hF hS hp.1.1 hp.1.2 dL_law_974 ?_
  refine k_aload_n hF dL_law_975 rfl ?_
  refine k_iload hF dL_law_976 rfl ?_
  refine k_iconst hF dL_law_978 ci_2 ?_
  refine k_iadd hF dL_law_979 ?_
  refine kl_sld hF hS hp.2.1.1 hp.2.1.2 dL_law_980 ?_
  refine k_aload_n hF dL_law_981 rfl ?_
  refine k_iload hF dL_law_982 rfl ?_
  refine k_iconst hF dL_law_984 ci_3 ?_
  refine k_iadd hF dL_law_985 ?_
  refine kl_sld hF hS hp.2.2.1.1 hp.2.2.1.2 dL_law_986 ?_
  obtain ⟨z1, hz1, h⟩ := bind_some h
  refine kl_H hF hNc hA bc' bs' (as := [.ref (B + 0), .int p1, .int p2, .int p3]) (ct_L_write hl (Nat.le_refl _) (Nat.add_le_add_left (Nat.le_of_ble_eq_true rfl) _) hz1) mh_L_185 rfl rfl ⟨Nat.le_of_ble_eq_true rfl, Nat.le_of_ble_eq_true rfl⟩ (Nat.le_of_ble_eq_true rfl) dL_law_987 (by omega) (by omega) ?_
  refine k_st (st2 := [.int z1.1]) rfl ?_
  refine k_istore hF (L' := [some (.ref b), some (.ref (B + 0)), some (.ref (B + 121 + 0)), some (.ref (B + 164)), some (.int i), some (.int z1.1), none]) dL_law_990 (by decide) rfl ?_
  refine k_aload_n hF dL_law_992 rfl ?_
  refine k_aload_n hF dL_law_993 rfl ?_
  refine k_iload hF dL_law_994 rfl ?_
  refine k_iconst hF dL_law_996 ci_1 ?_
  refine k_iadd hF dL_law_997 ?_
  refine kl_sld hF hS hp.1.1 hp.1.2 dL_law_998 ?_
  refine k_aload_n hF dL_law_999 rfl ?_
  refine k_iload hF dL_law_1000 rfl ?_
  refine k_iconst hF dL_law_1002 ci_2 ?_
  refine k_iadd hF dL_law_1003 ?_
  refine kl_sld hF hS hp.2.1.1 hp.2.1.2 dL_law_1004 ?_
  refine k_aload_n hF dL_law_1005 rfl ?_
  refine k_iload hF dL_law_1006 rfl ?_
  refine k_iconst hF dL_law_1008 ci_3 ?_
  refine k_iadd hF dL_law_1009 ?_
  refine kl_sld hF hS hp.2.2.1.1 hp.2.2.1.2 dL_law_1010 ?_
  obtain ⟨z2, hz2, h⟩ := bind_some h
  refine kl_M hF hA (as := [.int p1, .int p2, .int p3]) (ct_X11_write (Nat.le_add_right _ _) hz2) mv_L_187 shR_0 rfl rfl rfl ⟨Nat.le_of_ble_eq_true rfl, Nat.le_of_ble_eq_true rfl⟩ (Nat.le_of_ble_eq_true rfl) dL_law_1011 ?_
  refine k_st (st2 := []) rfl ?_
  refine k_aload_n hF dL_law_1014 rfl ?_
  obtain ⟨z3, hz3, h⟩ := bind_some h
  refine kl_M hF hA (as := []) (ct_X11_thrown (Nat.le_add_right _ _) hz3) mv_L_137 shR_0 rfl rfl rfl ⟨Nat.le_of_ble_eq_true rfl, Nat.le_of_ble_eq_true rfl⟩ (Nat.le_of_ble_eq_true rfl) dL_law_1015 ?_
  refine k_st (st2 := [.int z3]) rfl ?_
  refine k_iload hF dL_law_1018 rfl ?_
  by_cases c4 : z3 = z1.1
  · replace h := ite_t c4 h
    refine k_icmp_eq hF (tgt := 1025) dL_law_1020 (by decide) (fun _ => ?_) (fun c => absurd c4 c)
    refine k_goto hF (tgt := 2437) dL_law_1025 (by decide) ?_
    refine k_kill 5 rfl ?_
    cases h
    exact kk
  · replace h := ite_f c4 h
    cases h
set_option maxHeartbeats 4000000 in
theorem wLaw_c15 {p : Program} {l : Launch} {e : Env} {s : State} {m : MethodId} {args : Array Value} {below : List Frame} {meth : Method} {c : Code} {Q : State → Prop} {A : Nat → Prop} {D : DD} {B : Nat} (hF : KF D B cL_law RL A 7 601024 7293034 p l e room_1 s m args below meth c) (hl : l.stackTraces = false) (hNc : KNc s) (hA : ∀ q, B ≤ q → A q) {b Ls : Nat} {xs : Nat → Int32} (hS : SC b Ls xs A s) {i p1 p2 p3 p4 : Int32} (hp : PA xs Ls i p1 p2 p3 p4) {bc bs bc' bs' : Nat} (hbc : bc' + 6 ≤ bc) (hbs : bs' + 36 ≤ bs) {σC σR : St} {v : Int64} {z : LL} (h : fLaw_c15 σC σR v p1 p2 p3 p4 = some z)
    (kk : KJ (RepL D B) A 7 601024 7293034 Q p l e room_1 s m args below meth c bc' bs' 2437 [some (.ref b), some (.ref (B + 0)), some (.ref (B + 121 + 0)), some (.ref (B + 164)), some (.int i), none, none] [] z) : KJ (RepL D B) A 7 601024 7293034 Q p l e room_1 s m args below meth c bc bs 1028 [some (.ref b), some (.ref (B + 0)), some (.ref (B + 121 + 0)), some (.ref (B + 164)), some (.int i), none, none] [] (σC, σR, v) := by
  unfold fLaw_c15 at h
  refine k_aload_n hF dL_law_1028 rfl ?_
  refine k_aload_n hF dL_law_1029 rfl ?_
  refine k_iload hF dL_law_1030 rfl ?_
  refine k_iconst hF dL_law_1032 ci_1 ?_
  refine k_iadd hF dL_law_1033 ?_
  refine kl_sld hF hS hp.1.1 hp.1.2 dL_law_1034 ?_
  refine k_aload_n hF dL_law_1035 rfl ?_
  refine k_iload hF dL_law_1036 rfl ?_
  refine k_iconst hF dL_law_1038 ci_2 ?_
  refine k_iadd hF dL_law_1039 ?_
  refine kl_sld hF hS hp.2.1.1 hp.2.1.2 dL_law_1040 ?_
  refine k_aload_n hF dL_law_1041 rfl ?_
  refine k_iload hF dL_law_1042 rfl ?_
  refine k_iconst hF dL_law_1044 ci_3 ?_
  refine k_iadd hF dL_law_1045 ?_
  refine kl_sld hF hS hp.2.2.1.1 hp.2.2.1.2 dL_law_1046 ?_
  refine k_aload_n hF dL_law_1047 rfl ?_
  refine k_iload hF dL_law_1048 rfl ?_
  refine k_iconst hF dL_law_1050 ci_4 ?_
  refine k_iadd hF dL_law_1051 ?_
  refine kl_sld hF hS hp.2.2.2.1 hp.2.2.2.2 dL_law_1052 ?_
  refine k_aload_n hF dL_law_1053 rfl ?_
  obtain ⟨z1, hz1, h⟩ := bind_some h
  refine kl_H hF hNc hA bc' bs' (as := [.ref (B + 0), .int p1, .int p2, .int p3, .int p4, .ref (B + 164)]) (ct_L_link hl (Nat.le_refl _) (Nat.add_le_add_left (Nat.le_of_ble_eq_true rfl) _) hz1) mh_L_188 rfl rfl ⟨Nat.le_of_ble_eq_true rfl, Nat.le_of_ble_eq_true rfl⟩ (Nat.le_of_ble_eq_true rfl) dL_law_1054 (by omega) (by omega) ?_
  refine k_st (st2 := [.int z1.1]) rfl ?_
  refine k_istore hF (L' := [some (.ref b), some (.ref (B + 0)), some (.ref (B + 121 + 0)), some (.ref (B + 164)), some (.int i), some (.int z1.1), none]) dL_law_1057 (by decide) rfl ?_
  refine k_aload_n hF dL_law_1059 rfl ?_
  refine k_aload_n hF dL_law_1060 rfl ?_
  refine k_iload hF dL_law_1061 rfl ?_
  refine k_iconst hF dL_law_1063 ci_1 ?_
  refine k_iadd hF dL_law_1064 ?_
  refine kl_sld hF hS hp.1.1 hp.1.2 dL_law_1065 ?_
  refine k_aload_n hF dL_law_1066 rfl ?_
  refine k_iload hF dL_law_1067 rfl ?_
  refine k_iconst hF dL_law_1069 ci_2 ?_
  refine k_iadd hF dL_law_1070 ?_
  refine kl_sld hF hS hp.2.1.1 hp.2.1.2 dL_law_1071 ?_
  refine k_aload_n hF dL_law_1072 rfl ?_
  refine k_iload hF dL_law_1073 rfl ?_
  refine k_iconst hF dL_law_1075 ci_3 ?_
  refine k_iadd hF dL_law_1076 ?_
  refine kl_sld hF hS hp.2.2.1.1 hp.2.2.1.2 dL_law_1077 ?_
  refine k_aload_n hF dL_law_1078 rfl ?_
  refine k_iload hF dL_law_1079 rfl ?_
  refine k_iconst hF dL_law_1081 ci_4 ?_
  refine k_iadd hF dL_law_1082 ?_
  refine kl_sld hF hS hp.2.2.2.1 hp.2.2.2.2 dL_law_1083 ?_
  obtain ⟨z2, hz2, h⟩ := bind_some h
  refine kl_M hF hA (as := [.int p1, .int p2, .int p3, .int p4]) (ct_X11_link (Nat.le_add_right _ _) hz2) mv_L_191 shR_0 rfl rfl rfl ⟨Nat.le_of_ble_eq_true rfl, Nat.le_of_ble_eq_true rfl⟩ (Nat.le_of_ble_eq_true rfl) dL_law_1084 ?_
  refine k_st (st2 := [.int z2.1]) rfl ?_
  refine k_istore hF (L' := [some (.ref b), some (.ref (B + 0)), some (.ref (B + 121 + 0)), some (.ref (B + 164)), some (.int i), some (.int z1.1), some (.int z2.1)]) dL_law_1087 (by decide) rfl ?_
  refine k_aload_n hF dL_law_1089 rfl ?_
  obtain ⟨z3, hz3, h⟩ := bind_some h
  refine kl_M hF hA (as := []) (ct_X11_thrown (Nat.le_add_right _ _) hz3) mv_L_137 shR_0 rfl rfl rfl ⟨Nat.le_of_ble_eq_true rfl, Nat.le_of_ble_eq_true rfl⟩ (Nat.le_of_ble_eq_true rfl) dL_law_1090 ?_
  refine k_st (st2 := [.int z3]) rfl ?_
  refine k_iload hF dL_law_1093 rfl ?_
  by_cases c4 : z3 = z1.1
  · replace h := ite_t c4 h
    refine k_icmp_eq hF (tgt := 1100) dL_law_1095 (by decide) (fun _ => ?_) (fun c => absurd c4 c)
    refine k_iload hF dL_law_1100 rfl ?_
    by_cases c5 : z1.1 = 0
    · replace h := ite_t c5 h
      refine k_if_ne hF (tgt := 1117) dL_law_1102 (by decide) (fun c => absurd c5 c) (fun _ => ?_)
      refine k_aload_n hF dL_law_1105 rfl ?_
      refine k_iconst hF dL_law_1106 ci_0 ?_
      refine kl_lald hF dL_law_1107 ?_
      refine k_iload hF dL_law_1108 rfl ?_
      refine k_i2l hF dL_law_1110 ?_
      refine k_lcmp hF dL_law_1111 ?_
      by_cases c6 : (lg_cmp z1.2.2 z2.1.toInt64) = 0
      · replace h := ite_t c6 h
        refine k_if_eq hF (tgt := 1117) dL_law_1112 (by decide) (fun _ => ?_) (fun c => absurd c6 c)
        refine k_goto hF (tgt := 2437) dL_law_1117 (by decide) ?_
        refine k_kill 5 rfl ?_
        refine k_kill 6 rfl ?_
        cases h
        exact kk
      · replace h := ite_f c6 h
        cases h
    · replace h := ite_f c5 h
      refine k_if_ne hF (tgt := 1117) dL_law_1102 (by decide) (fun _ => ?_) (fun c => absurd c c5)
      refine k_goto hF (tgt := 2437) dL_law_1117 (by decide) ?_
      refine k_kill 5 rfl ?_
      refine k_kill 6 rfl ?_
      cases h
      exact kk
  · replace h := ite_f c4 h
    cases h
set_option maxHeartbeats 4000000 in
theorem wLaw_c16 {p : Program} {l : Launch} {e : Env} {s : State} {m : MethodId} {args : Array Value} {below : List Frame} {meth : Method} {c : Code} {Q : State → Prop} {A : Nat → Prop} {D : DD} {B : Nat} (hF : KF D B cL_law RL A 7 601024 7293034 p l e room_1 s m args below meth c) (hl : l.stackTraces = false) (hNc : KNc s) (hA : ∀ q, B ≤ q → A q) {b Ls : Nat} {xs : Nat → Int32} (hS : SC b Ls xs A s) {i p1 p2 p3 p4 : Int32} (hp : PA xs Ls i p1 p2 p3 p4) {bc bs bc' bs' : Nat} (hbc : bc' + 6 ≤ bc) (hbs : bs' + 36 ≤ bs) {σC σR : St} {v : Int64} {z : LL} (h : fLaw_c16 σC σR v p1 p2 p3 p4 = some z)
    (kk : KJ (RepL D B) A 7 601024 7293034 Q p l e room_1 s m args below meth c bc' bs' 2437 [some (.ref b), some (.ref (B + 0)), some (.ref (B + 121 + 0)), some (.ref (B + 164)), some (.int i), none, none] [] z) : KJ (RepL D B) A 7 601024 7293034 Q p l e room_1 s m args below meth c bc bs 1120 [some (.ref b), some (.ref (B + 0)), some (.ref (B + 121 + 0)), some (.ref (B + 164)), some (.int i), none, none] [] (σC, σR, v) := by
  unfold fLaw_c16 at h
  refine k_aload_n hF dL_law_1120 rfl ?_
  refine k_aload_n hF dL_law_1121 rfl ?_
  refine k_iload hF dL_law_1122 rfl ?_
  refine k_iconst hF dL_law_1124 ci_1 ?_
  refine k_iadd hF dL_law_1125 ?_
  refine kl_sld hF hS hp.1.1 hp.1.2 dL_law_1126 ?_
  refine k_aload_n hF dL_law_1127 rfl ?_
  refine k_iload hF dL_law_1128 rfl ?_
  refine k_iconst hF dL_law_1130 ci_2 ?_
  refine k_iadd hF dL_law_1131 ?_
  refine kl_sld hF hS hp.2.1.1 hp.2.1.2 dL_law_1132 ?_
  obtain ⟨z1, hz1, h⟩ := bind_some h
  refine kl_H hF hNc hA bc' bs' (as := [.ref (B + 0), .int p1, .int p2]) (ct_L_unlink hl (Nat.le_refl _) (Nat.add_le_add_left (Nat.le_of_ble_eq_true rfl) _) hz1) mh_L_192 rfl rfl ⟨Nat.le_of_ble_eq_true rfl, Nat.le_of_ble_eq_true rfl⟩ (Nat.le_of_ble_eq_true rfl) dL_law_1133 (by omega) (by omega) ?_
  refine k_st (st2 := [.int z1.1]) rfl ?_
  refine k_istore hF (L' := [some (.ref b), some (.ref (B + 0)), some (.ref (B + 121 + 0)), some (.ref (B + 164)), some (.int i), some (.int z1.1), none]) dL_law_1136 (by decide) rfl ?_
  refine k_aload_n hF dL_law_1138 rfl ?_
  refine k_aload_n hF dL_law_1139 rfl ?_
  refine k_iload hF dL_law_1140 rfl ?_
  refine k_iconst hF dL_law_1142 ci_1 ?_
  refine k_iadd hF dL_law_1143 ?_
  refine kl_sld hF hS hp.1.1 hp.1.2 dL_law_1144 ?_
  refine k_aload_n hF dL_law_1145 rfl ?_
  refine k_iload hF dL_law_1146 rfl ?_
  refine k_iconst hF dL_law_1148 ci_2 ?_
  refine k_iadd hF dL_law_1149 ?_
  refine kl_sld hF hS hp.2.1.1 hp.2.1.2 dL_law_1150 ?_
  obtain ⟨z2, hz2, h⟩ := bind_some h
  refine kl_M hF hA (as := [.int p1, .int p2]) (ct_X11_unlink (Nat.le_add_right _ _) hz2) mv_L_195 shR_0 rfl rfl rfl ⟨Nat.le_of_ble_eq_true rfl, Nat.le_of_ble_eq_true rfl⟩ (Nat.le_of_ble_eq_true rfl) dL_law_1151 ?_
  refine k_st (st2 := []) rfl ?_
  refine k_aload_n hF dL_law_1154 rfl ?_
  obtain ⟨z3, hz3, h⟩ := bind_some h
  refine kl_M hF hA (as := []) (ct_X11_thrown (Nat.le_add_right _ _) hz3) mv_L_137 shR_0 rfl rfl rfl ⟨Nat.le_of_ble_eq_true rfl, Nat.le_of_ble_eq_true rfl⟩ (Nat.le_of_ble_eq_true rfl) dL_law_1155 ?_
  refine k_st (st2 := [.int z3]) rfl ?_
  refine k_iload hF dL_law_1158 rfl ?_
  by_cases c4 : z3 = z1.1
  · replace h := ite_t c4 h
    refine k_icmp_eq hF (tgt := 1165) dL_law_1160 (by decide) (fun _ => ?_) (fun c => absurd c4 c)
    refine k_goto hF (tgt := 2437) dL_law_1165 (by decide) ?_
    refine k_kill 5 rfl ?_
    cases h
    exact kk
  · replace h := ite_f c4 h
    cases h
set_option maxHeartbeats 4000000 in
theorem wLaw_c17 {p : Program} {l : Launch} {e : Env} {s : State} {m : MethodId} {args : Array Value} {below : List Frame} {meth : Method} {c : Code} {Q : State → Prop} {A : Nat → Prop} {D : DD} {B : Nat} (hF : KF D B cL_law RL A 7 601024 7293034 p l e room_1 s m args below meth c) (hl : l.stackTraces = false) (hNc : KNc s) (hA : ∀ q, B ≤ q → A q) {b Ls : Nat} {xs : Nat → Int32} (hS : SC b Ls xs A s) {i p1 p2 p3 p4 : Int32} (hp : PA xs Ls i p1 p2 p3 p4) {bc bs bc' bs' : Nat} (hbc : bc' + 6 ≤ bc) (hbs : bs' + 36 ≤ bs) {σC σR : St} {v : Int64} {z : LL} (h : fLaw_c17 σC σR v p1 p2 p3 p4 = some z)
    (kk : KJ (RepL D B) A 7 601024 7293034 Q p l e room_1 s m args below meth c bc' bs' 2437 [some (.ref b), some (.ref (B + 0)), some (.ref (B + 121 + 0)), some (.ref (B + 164)), some (.int i), none, none] [] z) : KJ (RepL D B) A 7 601024 7293034 Q p l e room_1 s m args below meth c bc bs 1168 [some (.ref b), some (.ref (B + 0)), some (.ref (B + 121 + 0)), some (.ref (B + 164)), some (.int i), none, none] [] (σC, σR, v) := by
  unfold fLaw_c17 at h
  refine k_aload_n hF dL_law_1168 rfl ?_
  refine k_aload_n hF dL_law_1169 rfl ?_
  refine k_iload hF dL_law_1170 rfl ?_
  refine k_iconst hF dL_law_1172 ci_1 ?_
  refine k_iadd hF dL_law_1173 ?_
  refine kl_sld hF hS hp.1.1 hp.1.2 dL_law_1174 ?_
  refine k_aload_n hF dL_law_1175 rfl ?_
  refine k_iload hF dL_law_1176 rfl ?_
  refine k_iconst hF dL_law_1178 ci_2 ?_
  refine k_iadd hF dL_law_1179 ?_
  refine kl_sld hF hS hp.2.1.1 hp.2.1.2 dL_law_1180 ?_
  refine k_aload_n hF dL_law_1181 rfl ?_
  obtain ⟨z1, hz1, h⟩ := bind_some h
  refine kl_H hF hNc hA bc' bs' (as := [.ref (B + 0), .int p1, .int p2, .ref (B + 164)]) (ct_L_read hl (Nat.le_refl _) (Nat.add_le_add_left (Nat.le_of_ble_eq_true rfl) _) hz1) mh_L_196 rfl rfl ⟨Nat.le_of_ble_eq_true rfl, Nat.le_of_ble_eq_true rfl⟩ (Nat.le_of_ble_eq_true rfl) dL_law_1182 (by omega) (by omega) ?_
  refine k_st (st2 := [.int z1.1]) rfl ?_
  refine k_istore hF (L' := [some (.ref b), some (.ref (B + 0)), some (.ref (B + 121 + 0)), some (.ref (B + 164)), some (.int i), some (.int z1.1), none]) dL_law_1185 (by decide) rfl ?_
  refine k_aload_n hF dL_law_1187 rfl ?_
  refine k_aload_n hF dL_law_1188 rfl ?_
  refine k_iload hF dL_law_1189 rfl ?_
  refine k_iconst hF dL_law_1191 ci_1 ?_
  refine k_iadd hF dL_law_1192 ?_
  refine kl_sld hF hS hp.1.1 hp.1.2 dL_law_1193 ?_
  refine k_aload_n hF dL_law_1194 rfl ?_
  refine k_iload hF dL_law_1195 rfl ?_
  refine k_iconst hF dL_law_1197 ci_2 ?_
  refine k_iadd hF dL_law_1198 ?_
  refine kl_sld hF hS hp.2.1.1 hp.2.1.2 dL_law_1199 ?_
  obtain ⟨z2, hz2, h⟩ := bind_some h
  refine kl_M hF hA (as := [.int p1, .int p2]) (ct_X11_read (Nat.le_add_right _ _) hz2) mv_L_198 shR_0 rfl rfl rfl ⟨Nat.le_of_ble_eq_true rfl, Nat.le_of_ble_eq_true rfl⟩ (Nat.le_of_ble_eq_true rfl) dL_law_1200 ?_
  refine k_st (st2 := [.int z2.1]) rfl ?_
  refine k_istore hF (L' := [some (.ref b), some (.ref (B + 0)), some (.ref (B + 121 + 0)), some (.ref (B + 164)), some (.int i), some (.int z1.1), some (.int z2.1)]) dL_law_1203 (by decide) rfl ?_
  refine k_aload_n hF dL_law_1205 rfl ?_
  obtain ⟨z3, hz3, h⟩ := bind_some h
  refine kl_M hF hA (as := []) (ct_X11_thrown (Nat.le_add_right _ _) hz3) mv_L_137 shR_0 rfl rfl rfl ⟨Nat.le_of_ble_eq_true rfl, Nat.le_of_ble_eq_true rfl⟩ (Nat.le_of_ble_eq_true rfl) dL_law_1206 ?_
  refine k_st (st2 := [.int z3]) rfl ?_
  refine k_iload hF dL_law_1209 rfl ?_
  by_cases c4 : z3 = z1.1
  · replace h := ite_t c4 h
    refine k_icmp_eq hF (tgt := 1216) dL_law_1211 (by decide) (fun _ => ?_) (fun c => absurd c4 c)
    refine k_iload hF dL_law_1216 rfl ?_
    by_cases c5 : z1.1 = 0
    · replace h := ite_t c5 h
      refine k_if_ne hF (tgt := 1233) dL_law_1218 (by decide) (fun c => absurd c5 c) (fun _ => ?_)
      refine k_aload_n hF dL_law_1221 rfl ?_
      refine k_iconst hF dL_law_1222 ci_0 ?_
      refine kl_lald hF dL_law_1223 ?_
      refine k_iload hF dL_law_1224 rfl ?_
      refine k_i2l hF dL_law_1226 ?_
      refine k_lcmp hF dL_law_1227 ?_
      by_cases c6 : (lg_cmp z1.2.2 z2.1.toInt64) = 0
      · replace h := ite_t c6 h
        refine k_if_eq hF (tgt := 1233) dL_law_1228 (by decide) (fun _ => ?_) (fun c => absurd c6 c)
        refine k_goto hF (tgt := 2437) dL_law_1233 (by decide) ?_
        refine k_kill 5 rfl ?_
        refine k_kill 6 rfl ?_
        cases h
        exact kk
      · replace h := ite_f c6 h
        cases h
    · replace h := ite_f c5 h
      refine k_if_ne hF (tgt := 1233) dL_law_1218 (by decide) (fun _ => ?_) (fun c => absurd c c5)
      refine k_goto hF (tgt := 2437) dL_law_1233 (by decide) ?_
      refine k_kill 5 rfl ?_
      refine k_kill 6 rfl ?_
      cases h
      exact kk
  · replace h := ite_f c4 h
    cases h
set_option maxHeartbeats 4000000 in
theorem wLaw_c18 {p : Program} {l : Launch} {e : Env} {s : State} {m : MethodId} {args : Array Value} {below : List Frame} {meth : Method} {c : Code} {Q : State → Prop} {A : Nat → Prop} {D : DD} {B : Nat} (hF : KF D B cL_law RL A 7 601024 7293034 p l e room_1 s m args below meth c) (hl : l.stackTraces = false) (hNc : KNc s) (hA : ∀ q, B ≤ q → A q) {b Ls : Nat} {xs : Nat → Int32} (hS : SC b Ls xs A s) {i p1 p2 p3 p4 : Int32} (hp : PA xs Ls i p1 p2 p3 p4) {bc bs bc' bs' : Nat} (hbc : bc' + 6 ≤ bc) (hbs : bs' + 36 ≤ bs) {σC σR : St} {v : Int64} {z : LL} (h : fLaw_c18 σC σR v p1 p2 p3 p4 = some z)
    (kk : KJ (RepL D B) A 7 601024 7293034 Q p l e room_1 s m args below meth c bc' bs' 2437 [some (.ref b), some (.ref (B + 0)), some (.ref (B + 121 + 0)), some (.ref (B + 164)), some (.int i), none, none] [] z) : KJ (RepL D B) A 7 601024 7293034 Q p l e room_1 s m args below meth c bc bs 1236 [some (.ref b), some (.ref (B + 0)), some (.ref (B + 121 + 0)), some (.ref (B + 164)), some (.int i), none, none] [] (σC, σR, v) := by
  unfold fLaw_c18 at h
  refine k_aload_n hF dL_law_1236 rfl ?_
  refine k_aload_n hF dL_law_1237 rfl ?_
  refine k_iload hF dL_law_1238 rfl ?_
  refine k_iconst hF dL_law_1240 ci_1 ?_
  refine k_iadd hF dL_law_1241 ?_
  refine kl_sld hF hS hp.1.1 hp.1.2 dL_law_1242 ?_
  refine k_aload_n hF dL_law_1243 rfl ?_
  refine k_iload hF dL_law_1244 rfl ?_
  refine k_iconst hF dL_law_1246 ci_2 ?_
  refine k_iadd hF dL_law_1247 ?_
  refine kl_sld hF hS hp.2.1.1 hp.2.1.2 dL_law_1248 ?_
  refine k_aload_n hF dL_law_1249 rfl ?_
  obtain ⟨z1, hz1, h⟩ := bind_some h
  refine kl_H hF hNc hA bc' bs' (as := [.ref (B + 0), .int p1, .int p2, .ref (B + 164)]) (ct_L_sees hl (Nat.le_refl _) (Nat.add_le_add_left (Nat.le_of_ble_eq_true rfl) _) hz1) mh_L_199 rfl rfl ⟨Nat.le_of_ble_eq_true rfl, Nat.le_of_ble_eq_true rfl⟩ (Nat.le_of_ble_eq_true rfl) dL_law_1250 (by omega) (by omega) ?_
  refine k_st (st2 := [.int z1.1]) rfl ?_
  refine k_istore hF (L' := [some (.ref b), some (.ref (B + 0)), some (.ref (B + 121 + 0)), some (.ref (B + 164)), some (.int i), some (.int z1.1), none]) dL_law_1253 (by decide) rfl ?_
  refine k_aload_n hF dL_law_1255 rfl ?_
  refine k_aload_n hF dL_law_1256 rfl ?_
  refine k_iload hF dL_law_1257 rfl ?_
  refine k_iconst hF dL_law_1259 ci_1 ?_
  refine k_iadd hF dL_law_1260 ?_
  refine kl_sld hF hS hp.1.1 hp.1.2 dL_law_1261 ?_
  refine k_aload_n hF dL_law_1262 rfl ?_
  refine k_iload hF dL_law_1263 rfl ?_
  refine k_iconst hF dL_law_1265 ci_2 ?_
  refine k_iadd hF dL_law_1266 ?_
  refine kl_sld hF hS hp.2.1.1 hp.2.1.2 dL_law_1267 ?_
  obtain ⟨z2, hz2, h⟩ := bind_some h
  refine kl_M hF hA (as := [.int p1, .int p2]) (ct_X11_sees (Nat.le_add_right _ _) hz2) mv_L_201 shR_0 rfl rfl rfl ⟨Nat.le_of_ble_eq_true rfl, Nat.le_of_ble_eq_true rfl⟩ (Nat.le_of_ble_eq_true rfl) dL_law_1268 ?_
  refine k_st (st2 := [.int z2.1]) rfl ?_
  refine k_istore hF (L' := [some (.ref b), some (.ref (B + 0)), some (.ref (B + 121 + 0)), some (.ref (B + 164)), some (.int i), some (.int z1.1), some (.int z2.1)]) dL_law_1271 (by decide) rfl ?_
  refine k_aload_n hF dL_law_1273 rfl ?_
  obtain ⟨z3, hz3, h⟩ := bind_some h
  refine kl_M hF hA (as := []) (ct_X11_thrown (Nat.le_add_right _ _) hz3) mv_L_137 shR_0 rfl rfl rfl ⟨Nat.le_of_ble_eq_true rfl, Nat.le_of_ble_eq_true rfl⟩ (Nat.le_of_ble_eq_true rfl) dL_law_1274 ?_
  refine k_st (st2 := [.int z3]) rfl ?_
  refine k_iload hF dL_law_1277 rfl ?_
  by_cases c4 : z3 = z1.1
  · replace h := ite_t c4 h
    refine k_icmp_eq hF (tgt := 1284) dL_law_1279 (by decide) (fun _ => ?_) (fun c => absurd c4 c)
    refine k_iload hF dL_law_1284 rfl ?_
    by_cases c5 : z1.1 = 0
    · replace h := ite_t c5 h
      refine k_if_ne hF (tgt := 1301) dL_law_1286 (by decide) (fun c => absurd c5 c) (fun _ => ?_)
      refine k_aload_n hF dL_law_1289 rfl ?_
      refine k_iconst hF dL_law_1290 ci_0 ?_
      refine kl_lald hF dL_law_1291 ?_
      refine k_iload hF dL_law_1292 rfl ?_
      refine k_i2l hF dL_law_1294 ?_
      refine k_lcmp hF dL_law_1295 ?_
      by_cases c6 : (lg_cmp z1.2.2 z2.1.toInt64) = 0
      · replace h := ite_t c6 h
        refine k_if_eq hF (tgt := 1301) dL_law_1296 (by decide) (fun _ => ?_) (fun c => absurd c6 c)
        refine k_goto hF (tgt := 2437) dL_law_1301 (by decide) ?_
        refine k_kill 5 rfl ?_
        refine k_kill 6 rfl ?_
        cases h
        exact kk
      · replace h := ite_f c6 h
        cases h
    · replace h := ite_f c5 h
      refine k_if_ne hF (tgt := 1301) dL_law_1286 (by decide) (fun _ => ?_) (fun c => absurd c c5)
      refine k_goto hF (tgt := 2437) dL_law_1301 (by decide) ?_
      refine k_kill 5 rfl ?_
      refine k_kill 6 rfl ?_
      cases h
      exact kk
  · replace h := ite_f c4 h
    cases h
set_option maxHeartbeats 4000000 in
theorem wLaw_c19 {p : Program} {l : Launch} {e : Env} {s : State} {m : MethodId} {args : Array Value} {below : List Frame} {meth : Method} {c : Code} {Q : State → Prop} {A : Nat → Prop} {D : DD} {B : Nat} (hF : KF D B cL_law RL A 7 601024 7293034 p l e room_1 s m args below meth c) (hl : l.stackTraces = false) (hNc : KNc s) (hA : ∀ q, B ≤ q → A q) {b Ls : Nat} {xs : Nat → Int32} (hS : SC b Ls xs A s) {i p1 p2 p3 p4 : Int32} (hp : PA xs Ls i p1 p2 p3 p4) {bc bs bc' bs' : Nat} (hbc : bc' + 6 ≤ bc) (hbs : bs' + 36 ≤ bs) {σC σR : St} {v : Int64} {z : LL} (h : fLaw_c19 σC σR v p1 p2 p3 p4 = some z)
    (kk : KJ (RepL D B) A 7 601024 7293034 Q p l e room_1 s m args below meth c bc' bs' 2437 [some (.ref b), some (.ref (B + 0)), some (.ref (B + 121 + 0)), some (.ref (B + 164)), some (.int i), none, none] [] z) : KJ (RepL D B) A 7 601024 7293034 Q p l e room_1 s m args below meth c bc bs 1304 [some (.ref b), some (.ref (B + 0)), some (.ref (B + 121 + 0)), some (.ref (B + 164)), some (.int i), none, none] [] (σC, σR, v) := by
  unfold fLaw_c19 at h
  refine k_aload_n hF dL_law_1304 rfl ?_
  refine k_aload_n hF dL_law_1305 rfl ?_
  refine k_iload hF dL_law_1306 rfl ?_
  refine k_iconst hF dL_law_1308 ci_1 ?_
  refine k_iadd hF dL_law_1309 ?_
  refine kl_sld hF hS hp.1.1 hp.1.2 dL_law_1310 ?_
  refine k_aload_n hF dL_law_1311 rfl ?_
  refine k_iload hF dL_law_1312 rfl ?_
  refine k_iconst hF dL_law_1314 ci_2 ?_
  refine k_iadd hF dL_law_1315 ?_
  refine kl_sld hF hS hp.2.1.1 hp.2.1.2 dL_law_1316 ?_
  by_cases c1 : p2 = 0
  · replace h := ite_t c1 h
    refine k_if_eq hF (tgt := 1324) dL_law_1317 (by decide) (fun _ => ?_) (fun c => absurd c1 c)
    refine k_iconst hF dL_law_1324 ci_0 ?_
    refine k_aload_n hF dL_law_1325 rfl ?_
    obtain ⟨z2, hz2, h⟩ := bind_some h
    refine kl_H hF hNc hA bc' bs' (as := [.ref (B + 0), .int p1, .int (0 : Int32), .ref (B + 164)]) (ct_L_commit hl (Nat.le_refl _) (Nat.add_le_add_left (Nat.le_of_ble_eq_true rfl) _) hz2) mh_L_202 rfl rfl ⟨Nat.le_of_ble_eq_true rfl, Nat.le_of_ble_eq_true rfl⟩ (Nat.le_of_ble_eq_true rfl) dL_law_1326 (by omega) (by omega) ?_
    refine k_st (st2 := [.int z2.1]) rfl ?_
    refine k_istore hF (L' := [some (.ref b), some (.ref (B + 0)), some (.ref (B + 121 + 0)), some (.ref (B + 164)), some (.int i), some (.int z2.1), none]) dL_law_1329 (by decide) rfl ?_
    refine k_aload_n hF dL_law_1331 rfl ?_
    refine k_aload_n hF dL_law_1332 rfl ?_
    refine k_iload hF dL_law_1333 rfl ?_
    refine k_iconst hF dL_law_1335 ci_1 ?_
    refine k_iadd hF dL_law_1336 ?_
    refine kl_sld hF hS hp.1.1 hp.1.2 dL_law_1337 ?_
    refine k_aload_n hF dL_law_1338 rfl ?_
    refine k_iload hF dL_law_1339 rfl ?_
    refine k_iconst hF dL_law_1341 ci_2 ?_
    refine k_iadd hF dL_law_1342 ?_
    refine kl_sld hF hS hp.2.1.1 hp.2.1.2 dL_law_1343 ?_
    refine k_if_eq hF (tgt := 1351) dL_law_1344 (by decide) (fun _ => ?_) (fun c => absurd c1 c)
    refine k_iconst hF dL_law_1351 ci_0 ?_
    obtain ⟨z3, hz3, h⟩ := bind_some h
    refine kl_M hF hA (as := [.int p1, .int (0 : Int32)]) (ct_X11_commit (Nat.le_add_right _ _) hz3) mv_L_205 shR_0 rfl rfl rfl ⟨Nat.le_of_ble_eq_true rfl, Nat.le_of_ble_eq_true rfl⟩ (Nat.le_of_ble_eq_true rfl) dL_law_1352 ?_
    refine k_st (st2 := [.int z3.1]) rfl ?_
    refine k_istore hF (L' := [some (.ref b), some (.ref (B + 0)), some (.ref (B + 121 + 0)), some (.ref (B + 164)), some (.int i), some (.int z2.1), some (.int z3.1)]) dL_law_1355 (by decide) rfl ?_
    refine k_aload_n hF dL_law_1357 rfl ?_
    obtain ⟨z4, hz4, h⟩ := bind_some h
    refine kl_M hF hA (as := []) (ct_X11_thrown (Nat.le_add_right _ _) hz4) mv_L_137 shR_0 rfl rfl rfl ⟨Nat.le_of_ble_eq_true rfl, Nat.le_of_ble_eq_true rfl⟩ (Nat.le_of_ble_eq_true rfl) dL_law_1358 ?_
    refine k_st (st2 := [.int z4]) rfl ?_
    refine k_iload hF dL_law_1361 rfl ?_
    by_cases c5 : z4 = z2.1
    · replace h := ite_t c5 h
      refine k_icmp_eq hF (tgt := 1368) dL_law_1363 (by decide) (fun _ => ?_) (fun c => absurd c5 c)
      refine k_iload hF dL_law_1368 rfl ?_
      by_cases c6 : z2.1 = 0
      · replace h := ite_t c6 h
        refine k_if_ne hF (tgt := 1385) dL_law_1370 (by decide) (fun c => absurd c6 c) (fun _ => ?_)
        refine k_aload_n hF dL_law_1373 rfl ?_
        refine k_iconst hF dL_law_1374 ci_0 ?_
        refine kl_lald hF dL_law_1375 ?_
        refine k_iload hF dL_law_1376 rfl ?_
        refine k_i2l hF dL_law_1378 ?_
        refine k_lcmp hF dL_law_1379 ?_
        by_cases c7 : (lg_cmp z2.2.2 z3.1.toInt64) = 0
        · replace h := ite_t c7 h
          refine k_if_eq hF (tgt := 1385) dL_law_1380 (by decide) (fun _ => ?_) (fun c => absurd c7 c)
          refine k_goto hF (tgt := 2437) dL_law_1385 (by decide) ?_
          refine k_kill 5 rfl ?_
          refine k_kill 6 rfl ?_
          cases h
          exact kk
        · replace h := ite_f c7 h
          cases h
      · replace h := ite_f c6 h
        refine k_if_ne hF (tgt := 1385) dL_law_1370 (by decide) (fun _ => ?_) (fun c => absurd c c6)
        refine k_goto hF (tgt := 2437) dL_law_1385 (by decide) ?_
        refine k_kill 5 rfl ?_
        refine k_kill 6 rfl ?_
        cases h
        exact kk
    · replace h := ite_f c5 h
      cases h
  · replace h := ite_f c1 h
    refine k_if_eq hF (tgt := 1324) dL_law_1317 (by decide) (fun c => absurd c c1) (fun _ => ?_)
    refine k_iconst hF dL_law_1320 ci_1 ?_
    refine k_goto hF (tgt := 1325) dL_law_1321 (by decide) ?_
    refine k_aload_n hF dL_law_1325 rfl ?_
    obtain ⟨z8, hz8, h⟩ := bind_some h
    refine kl_H hF hNc hA bc' bs' (as := [.ref (B + 0), .int p1, .int (1 : Int32), .ref (B + 164)]) (ct_L_commit hl (Nat.le_refl _) (Nat.add_le_add_left (Nat.le_of_ble_eq_true rfl) _) hz8) mh_L_202 rfl rfl ⟨Nat.le_of_ble_eq_true rfl, Nat.le_of_ble_eq_true rfl⟩ (Nat.le_of_ble_eq_true rfl) dL_law_1326 (by omega) (by omega) ?_
    refine k_st (st2 := [.int z8.1]) rfl ?_
    refine k_istore hF (L' := [some (.ref b), some (.ref (B + 0)), some (.ref (B + 121 + 0)), some (.ref (B + 164)), some (.int i), some (.int z8.1), none]) dL_law_1329 (by decide) rfl ?_
    refine k_aload_n hF dL_law_1331 rfl ?_
    refine k_aload_n hF dL_law_1332 rfl ?_
    refine k_iload hF dL_law_1333 rfl ?_
    refine k_iconst hF dL_law_1335 ci_1 ?_
    refine k_iadd hF dL_law_1336 ?_
    refine kl_sld hF hS hp.1.1 hp.1.2 dL_law_1337 ?_
    refine k_aload_n hF dL_law_1338 rfl ?_
    refine k_iload hF dL_law_1339 rfl ?_
    refine k_iconst hF dL_law_1341 ci_2 ?_
    refine k_iadd hF dL_law_1342 ?_
    refine kl_sld hF hS hp.2.1.1 hp.2.1.2 dL_law_1343 ?_
    refine k_if_eq hF (tgt := 1351) dL_law_1344 (by decide) (fun c => absurd c c1) (fun _ => ?_)
    refine k_iconst hF dL_law_1347 ci_1 ?_
    refine k_goto hF (tgt := 1352) dL_law_1348 (by decide) ?_
    obtain ⟨z9, hz9, h⟩ := bind_some h
    refine kl_M hF hA (as := [.int p1, .int (1 : Int32)]) (ct_X11_commit (Nat.le_add_right _ _) hz9) mv_L_205 shR_0 rfl rfl rfl ⟨Nat.le_of_ble_eq_true rfl, Nat.le_of_ble_eq_true rfl⟩ (Nat.le_of_ble_eq_true rfl) dL_law_1352 ?_
    refine k_st (st2 := [.int z9.1]) rfl ?_
    refine k_istore hF (L' := [some (.ref b), some (.ref (B + 0)), some (.ref (B + 121 + 0)), some (.ref (B + 164)), some (.int i), some (.int z8.1), some (.int z9.1)]) dL_law_1355 (by decide) rfl ?_
    refine k_aload_n hF dL_law_1357 rfl ?_
    obtain ⟨z10, hz10, h⟩ := bind_some h
    refine kl_M hF hA (as := []) (ct_X11_thrown (Nat.le_add_right _ _) hz10) mv_L_137 shR_0 rfl rfl rfl ⟨Nat.le_of_ble_eq_true rfl, Nat.le_of_ble_eq_true rfl⟩ (Nat.le_of_ble_eq_true rfl) dL_law_1358 ?_
    refine k_st (st2 := [.int z10]) rfl ?_
    refine k_iload hF dL_law_1361 rfl ?_
    by_cases c11 : z10 = z8.1
    · replace h := ite_t c11 h
      refine k_icmp_eq hF (tgt := 1368) dL_law_1363 (by decide) (fun _ => ?_) (fun c => absurd c11 c)
      refine k_iload hF dL_law_1368 rfl ?_
      by_cases c12 : z8.1 = 0
      · replace h := ite_t c12 h
        refine k_if_ne hF (tgt := 1385) dL_law_1370 (by decide) (fun c => absurd c12 c) (fun _ => ?_)
        refine k_aload_n hF dL_law_1373 rfl ?_
        refine k_iconst hF dL_law_1374 ci_0 ?_
        refine kl_lald hF dL_law_1375 ?_
        refine k_iload hF dL_law_1376 rfl ?_
        refine k_i2l hF dL_law_1378 ?_
        refine k_lcmp hF dL_law_1379 ?_
        by_cases c13 : (lg_cmp z8.2.2 z9.1.toInt64) = 0
        · replace h := ite_t c13 h
          refine k_if_eq hF (tgt := 1385) dL_law_1380 (by decide) (fun _ => ?_) (fun c => absurd c13 c)
          refine k_goto hF (tgt := 2437) dL_law_1385 (by decide) ?_
          refine k_kill 5 rfl ?_
          refine k_kill 6 rfl ?_
          cases h
          exact kk
        · replace h := ite_f c13 h
          cases h
      · replace h := ite_f c12 h
        refine k_if_ne hF (tgt := 1385) dL_law_1370 (by decide) (fun _ => ?_) (fun c => absurd c c12)
        refine k_goto hF (tgt := 2437) dL_law_1385 (by decide) ?_
        refine k_kill 5 rfl ?_
        refine k_kill 6 rfl ?_
        cases h
        exact kk
    · replace h := ite_f c11 h
      cases h
set_option maxHeartbeats 4000000 in
theorem wLaw_c20 {p : Program} {l : Launch} {e : Env} {s : State} {m : MethodId} {args : Array Value} {below : List Frame} {meth : Method} {c : Code} {Q : State → Prop} {A : Nat → Prop} {D : DD} {B : Nat} (hF : KF D B cL_law RL A 7 601024 7293034 p l e room_1 s m args below meth c) (hl : l.stackTraces = false) (hNc : KNc s) (hA : ∀ q, B ≤ q → A q) {b Ls : Nat} {xs : Nat → Int32} (hS : SC b Ls xs A s) {i p1 p2 p3 p4 : Int32} (hp : PA xs Ls i p1 p2 p3 p4) {bc bs bc' bs' : Nat} (hbc : bc' + 6 ≤ bc) (hbs : bs' + 36 ≤ bs) {σC σR : St} {v : Int64} {z : LL} (h : fLaw_c20 σC σR v p1 p2 p3 p4 = some z)
    (kk : KJ (RepL D B) A 7 601024 7293034 Q p l e room_1 s m args below meth c bc' bs' 2437 [some (.ref b), some (.ref (B + 0)), some (.ref (B + 121 + 0)), some (.ref (B + 164)), some (.int i), none, none] [] z) : KJ (RepL D B) A 7 601024 7293034 Q p l e room_1 s m args below meth c bc bs 1388 [some (.ref b), some (.ref (B + 0)), some (.ref (B + 121 + 0)), some (.ref (B + 164)), some (.int i), none, none] [] (σC, σR, v) := by
  unfold fLaw_c20 at h
  refine k_aload_n hF dL_law_1388 rfl ?_
  obtain ⟨z1, hz1, h⟩ := bind_some h
  refine kl_C hF hA (as := []) (ct_X10_time (Nat.le_refl _) hz1) mv_L_206 shC_0 rfl rfl rfl ⟨Nat.le_of_ble_eq_true rfl, Nat.le_of_ble_eq_true rfl⟩ (Nat.le_of_ble_eq_true rfl) dL_law_1389 ?_
  refine k_st (st2 := [.int z1]) rfl ?_
  refine k_aload_n hF dL_law_1392 rfl ?_
  obtain ⟨z2, hz2, h⟩ := bind_some h
  refine kl_M hF hA (as := []) (ct_X11_time (Nat.le_add_right _ _) hz2) mv_L_209 shR_0 rfl rfl rfl ⟨Nat.le_of_ble_eq_true rfl, Nat.le_of_ble_eq_true rfl⟩ (Nat.le_of_ble_eq_true rfl) dL_law_1393 ?_
  refine k_st (st2 := [.int z2.1, .int z1]) rfl ?_
  by_cases c3 : z1 = z2.1
  · replace h := ite_t c3 h
    refine k_icmp_eq hF (tgt := 2437) dL_law_1396 (by decide) (fun _ => ?_) (fun c => absurd c3 c)
    refine k_bud (bc' := bc') (bs' := bs') (by omega) (by omega) ?_
    cases h
    exact kk
  · replace h := ite_f c3 h
    cases h
set_option maxHeartbeats 4000000 in
theorem wLaw_c21 {p : Program} {l : Launch} {e : Env} {s : State} {m : MethodId} {args : Array Value} {below : List Frame} {meth : Method} {c : Code} {Q : State → Prop} {A : Nat → Prop} {D : DD} {B : Nat} (hF : KF D B cL_law RL A 7 601024 7293034 p l e room_1 s m args below meth c) (hl : l.stackTraces = false) (hNc : KNc s) (hA : ∀ q, B ≤ q → A q) {b Ls : Nat} {xs : Nat → Int32} (hS : SC b Ls xs A s) {i p1 p2 p3 p4 : Int32} (hp : PA xs Ls i p1 p2 p3 p4) {bc bs bc' bs' : Nat} (hbc : bc' + 6 ≤ bc) (hbs : bs' + 36 ≤ bs) {σC σR : St} {v : Int64} {z : LL} (h : fLaw_c21 σC σR v p1 p2 p3 p4 = some z)
    (kk : KJ (RepL D B) A 7 601024 7293034 Q p l e room_1 s m args below meth c bc' bs' 2437 [some (.ref b), some (.ref (B + 0)), some (.ref (B + 121 + 0)), some (.ref (B + 164)), some (.int i), none, none] [] z) : KJ (RepL D B) A 7 601024 7293034 Q p l e room_1 s m args below meth c bc bs 1401 [some (.ref b), some (.ref (B + 0)), some (.ref (B + 121 + 0)), some (.ref (B + 164)), some (.int i), none, none] [] (σC, σR, v) := by
  unfold fLaw_c21 at h
  refine k_aload_n hF dL_law_1401 rfl ?_
  refine k_aload_n hF dL_law_1402 rfl ?_
  refine k_iload hF dL_law_1403 rfl ?_
  refine k_iconst hF dL_law_1405 ci_1 ?_
  refine k_iadd hF dL_law_1406 ?_
  refine kl_sld hF hS hp.1.1 hp.1.2 dL_law_1407 ?_
  refine k_aload_n hF dL_law_1408 rfl ?_
  refine k_iload hF dL_law_1409 rfl ?_
  refine k_iconst hF dL_law_1411 ci_2 ?_
  refine k_iadd hF dL_law_1412 ?_
  refine kl_sld hF hS hp.2.1.1 hp.2.1.2 dL_law_1413 ?_
  refine k_aload_n hF dL_law_1414 rfl ?_
  obtain ⟨z1, hz1, h⟩ := bind_some h
  refine kl_H hF hNc hA bc' bs' (as := [.ref (B + 0), .int p1, .int p2, .ref (B + 164)]) (ct_L_valueAt hl (Nat.le_refl _) (Nat.add_le_add_left (Nat.le_of_ble_eq_true rfl) _) hz1) mh_L_210 rfl rfl ⟨Nat.le_of_ble_eq_true rfl, Nat.le_of_ble_eq_true rfl⟩ (Nat.le_of_ble_eq_true rfl) dL_law_1415 (by omega) (by omega) ?_
  refine k_st (st2 := [.int z1.1]) rfl ?_
  refine k_istore hF (L' := [some (.ref b), some (.ref (B + 0)), some (.ref (B + 121 + 0)), some (.ref (B + 164)), some (.int i), some (.int z1.1), none]) dL_law_1418 (by decide) rfl ?_
  refine k_aload_n hF dL_law_1420 rfl ?_
  refine k_aload_n hF dL_law_1421 rfl ?_
  refine k_iload hF dL_law_1422 rfl ?_
  refine k_iconst hF dL_law_1424 ci_1 ?_
  refine k_iadd hF dL_law_1425 ?_
  refine kl_sld hF hS hp.1.1 hp.1.2 dL_law_1426 ?_
  refine k_aload_n hF dL_law_1427 rfl ?_
  refine k_iload hF dL_law_1428 rfl ?_
  refine k_iconst hF dL_law_1430 ci_2 ?_
  refine k_iadd hF dL_law_1431 ?_
  refine kl_sld hF hS hp.2.1.1 hp.2.1.2 dL_law_1432 ?_
  obtain ⟨z2, hz2, h⟩ := bind_some h
  refine kl_M hF hA (as := [.int p1, .int p2]) (ct_X11_valueAt (Nat.le_add_right _ _) hz2) mv_L_212 shR_0 rfl rfl rfl ⟨Nat.le_of_ble_eq_true rfl, Nat.le_of_ble_eq_true rfl⟩ (Nat.le_of_ble_eq_true rfl) dL_law_1433 ?_
  refine k_st (st2 := [.int z2.1]) rfl ?_
  refine k_istore hF (L' := [some (.ref b), some (.ref (B + 0)), some (.ref (B + 121 + 0)), some (.ref (B + 164)), some (.int i), some (.int z1.1), some (.int z2.1)]) dL_law_1436 (by decide) rfl ?_
  refine k_aload_n hF dL_law_1438 rfl ?_
  obtain ⟨z3, hz3, h⟩ := bind_some h
  refine kl_M hF hA (as := []) (ct_X11_thrown (Nat.le_add_right _ _) hz3) mv_L_137 shR_0 rfl rfl rfl ⟨Nat.le_of_ble_eq_true rfl, Nat.le_of_ble_eq_true rfl⟩ (Nat.le_of_ble_eq_true rfl) dL_law_1439 ?_
  refine k_st (st2 := [.int z3]) rfl ?_
  refine k_iload hF dL_law_1442 rfl ?_
  by_cases c4 : z3 = z1.1
  · replace h := ite_t c4 h
    refine k_icmp_eq hF (tgt := 1449) dL_law_1444 (by decide) (fun _ => ?_) (fun c => absurd c4 c)
    refine k_iload hF dL_law_1449 rfl ?_
    by_cases c5 : z1.1 = 0
    · replace h := ite_t c5 h
      refine k_if_ne hF (tgt := 1466) dL_law_1451 (by decide) (fun c => absurd c5 c) (fun _ => ?_)
      refine k_aload_n hF dL_law_1454 rfl ?_
      refine k_iconst hF dL_law_1455 ci_0 ?_
      refine kl_lald hF dL_law_1456 ?_
      refine k_iload hF dL_law_1457 rfl ?_
      refine k_i2l hF dL_law_1459 ?_
      refine k_lcmp hF dL_law_1460 ?_
      by_cases c6 : (lg_cmp z1.2.2 z2.1.toInt64) = 0
      · replace h := ite_t c6 h
        refine k_if_eq hF (tgt := 1466) dL_law_1461 (by decide) (fun _ => ?_) (fun c => absurd c6 c)
        refine k_goto hF (tgt := 2437) dL_law_1466 (by decide) ?_
        refine k_kill 5 rfl ?_
        refine k_kill 6 rfl ?_
        cases h
        exact kk
      · replace h := ite_f c6 h
        cases h
    · replace h := ite_f c5 h
      refine k_if_ne hF (tgt := 1466) dL_law_1451 (by decide) (fun _ => ?_) (fun c => absurd c c5)
      refine k_goto hF (tgt := 2437) dL_law_1466 (by decide) ?_
      refine k_kill 5 rfl ?_
      refine k_kill 6 rfl ?_
      cases h
      exact kk
  · replace h := ite_f c4 h
    cases h
set_option maxHeartbeats 4000000 in
theorem wLaw_c22 {p : Program} {l : Launch} {e : Env} {s : State} {m : MethodId} {args : Array Value} {below : List Frame} {meth : Method} {c : Code} {Q : State → Prop} {A : Nat → Prop} {D : DD} {B : Nat} (hF : KF D B cL_law RL A 7 601024 7293034 p l e room_1 s m args below meth c) (hl : l.stackTraces = false) (hNc : KNc s) (hA : ∀ q, B ≤ q → A q) {b Ls : Nat} {xs : Nat → Int32} (hS : SC b Ls xs A s) {i p1 p2 p3 p4 : Int32} (hp : PA xs Ls i p1 p2 p3 p4) {bc bs bc' bs' : Nat} (hbc : bc' + 6 ≤ bc) (hbs : bs' + 36 ≤ bs) {σC σR : St} {v : Int64} {z : LL} (h : fLaw_c22 σC σR v p1 p2 p3 p4 = some z)
    (kk : KJ (RepL D B) A 7 601024 7293034 Q p l e room_1 s m args below meth c bc' bs' 2437 [some (.ref b), some (.ref (B + 0)), some (.ref (B + 121 + 0)), some (.ref (B + 164)), some (.int i), none, none] [] z) : KJ (RepL D B) A 7 601024 7293034 Q p l e room_1 s m args below meth c bc bs 1469 [some (.ref b), some (.ref (B + 0)), some (.ref (B + 121 + 0)), some (.ref (B + 164)), some (.int i), none, none] [] (σC, σR, v) := by
  unfold fLaw_c22 at h
  refine k_aload_n hF dL_law_1469 rfl ?_
  refine k_aload_n hF dL_law_1470 rfl ?_
  refine k_iload hF dL_law_1471 rfl ?_
  refine k_iconst hF dL_law_1473 ci_1 ?_
  refine k_iadd hF dL_law_1474 ?_
  refine kl_sld hF hS hp.1.1 hp.1.2 dL_law_1475 ?_
  refine k_aload_n hF dL_law_1476 rfl ?_
  obtain ⟨z1, hz1, h⟩ := bind_some h
  refine kl_H hF hNc hA bc' bs' (as := [.ref (B + 0), .int p1, .ref (B + 164)]) (ct_L_sizeAt hl (Nat.le_refl _) (Nat.add_le_add_left (Nat.le_of_ble_eq_true rfl) _) hz1) mh_L_213 rfl rfl ⟨Nat.le_of_ble_eq_true rfl, Nat.le_of_ble_eq_true rfl⟩ (Nat.le_of_ble_eq_true rfl) dL_law_1477 (by omega) (by omega) ?_
  refine k_st (st2 := [.int z1.1]) rfl ?_
  refine k_istore hF (L' := [some (.ref b), some (.ref (B + 0)), some (.ref (B + 121 + 0)), some (.ref (B + 164)), some (.int i), some (.int z1.1), none]) dL_law_1480 (by decide) rfl ?_
  refine k_aload_n hF dL_law_1482 rfl ?_
  refine k_aload_n hF dL_law_1483 rfl ?_
  refine k_iload hF dL_law_1484 rfl ?_
  refine k_iconst hF dL_law_1486 ci_1 ?_
  refine k_iadd hF dL_law_1487 ?_
  refine kl_sld hF hS hp.1.1 hp.1.2 dL_law_1488 ?_
  obtain ⟨z2, hz2, h⟩ := bind_some h
  refine kl_M hF hA (as := [.int p1]) (ct_X11_sizeAt (Nat.le_add_right _ _) hz2) mv_L_215 shR_0 rfl rfl rfl ⟨Nat.le_of_ble_eq_true rfl, Nat.le_of_ble_eq_true rfl⟩ (Nat.le_of_ble_eq_true rfl) dL_law_1489 ?_
  refine k_st (st2 := [.int z2.1]) rfl ?_
  refine k_istore hF (L' := [some (.ref b), some (.ref (B + 0)), some (.ref (B + 121 + 0)), some (.ref (B + 164)), some (.int i), some (.int z1.1), some (.int z2.1)]) dL_law_1492 (by decide) rfl ?_
  refine k_aload_n hF dL_law_1494 rfl ?_
  obtain ⟨z3, hz3, h⟩ := bind_some h
  refine kl_M hF hA (as := []) (ct_X11_thrown (Nat.le_add_right _ _) hz3) mv_L_137 shR_0 rfl rfl rfl ⟨Nat.le_of_ble_eq_true rfl, Nat.le_of_ble_eq_true rfl⟩ (Nat.le_of_ble_eq_true rfl) dL_law_1495 ?_
  refine k_st (st2 := [.int z3]) rfl ?_
  refine k_iload hF dL_law_1498 rfl ?_
  by_cases c4 : z3 = z1.1
  · replace h := ite_t c4 h
    refine k_icmp_eq hF (tgt := 1505) dL_law_1500 (by decide) (fun _ => ?_) (fun c => absurd c4 c)
    refine k_iload hF dL_law_1505 rfl ?_
    by_cases c5 : z1.1 = 0
    · replace h := ite_t c5 h
      refine k_if_ne hF (tgt := 1522) dL_law_1507 (by decide) (fun c => absurd c5 c) (fun _ => ?_)
      refine k_aload_n hF dL_law_1510 rfl ?_
      refine k_iconst hF dL_law_1511 ci_0 ?_
      refine kl_lald hF dL_law_1512 ?_
      refine k_iload hF dL_law_1513 rfl ?_
      refine k_i2l hF dL_law_1515 ?_
      refine k_lcmp hF dL_law_1516 ?_
      by_cases c6 : (lg_cmp z1.2.2 z2.1.toInt64) = 0
      · replace h := ite_t c6 h
        refine k_if_eq hF (tgt := 1522) dL_law_1517 (by decide) (fun _ => ?_) (fun c => absurd c6 c)
        refine k_goto hF (tgt := 2437) dL_law_1522 (by decide) ?_
        refine k_kill 5 rfl ?_
        refine k_kill 6 rfl ?_
        cases h
        exact kk
      · replace h := ite_f c6 h
        cases h
    · replace h := ite_f c5 h
      refine k_if_ne hF (tgt := 1522) dL_law_1507 (by decide) (fun _ => ?_) (fun c => absurd c c5)
      refine k_goto hF (tgt := 2437) dL_law_1522 (by decide) ?_
      refine k_kill 5 rfl ?_
      refine k_kill 6 rfl ?_
      cases h
      exact kk
  · replace h := ite_f c4 h
    cases h
set_option maxHeartbeats 4000000 in
theorem wLaw_c23 {p : Program} {l : Launch} {e : Env} {s : State} {m : MethodId} {args : Array Value} {below : List Frame} {meth : Method} {c : Code} {Q : State → Prop} {A : Nat → Prop} {D : DD} {B : Nat} (hF : KF D B cL_law RL A 7 601024 7293034 p l e room_1 s m args below meth c) (hl : l.stackTraces = false) (hNc : KNc s) (hA : ∀ q, B ≤ q → A q) {b Ls : Nat} {xs : Nat → Int32} (hS : SC b Ls xs A s) {i p1 p2 p3 p4 : Int32} (hp : PA xs Ls i p1 p2 p3 p4) {bc bs bc' bs' : Nat} (hbc : bc' + 6 ≤ bc) (hbs : bs' + 36 ≤ bs) {σC σR : St} {v : Int64} {z : LL} (h : fLaw_c23 σC σR v p1 p2 p3 p4 = some z)
    (kk : KJ (RepL D B) A 7 601024 7293034 Q p l e room_1 s m args below meth c bc' bs' 2437 [some (.ref b), some (.ref (B + 0)), some (.ref (B + 121 + 0)), some (.ref (B + 164)), some (.int i), none, none] [] z) : KJ (RepL D B) A 7 601024 7293034 Q p l e room_1 s m args below meth c bc bs 1525 [some (.ref b), some (.ref (B + 0)), some (.ref (B + 121 + 0)), some (.ref (B + 164)), some (.int i), none, none] [] (σC, σR, v) := by
  unfold fLaw_c23 at h
  refine k_aload_n hF dL_law_1525 rfl ?_
  refine k_aload_n hF dL_law_1526 rfl ?_
  refine k_iload hF dL_law_1527 rfl ?_
  refine k_iconst hF dL_law_1529 ci_1 ?_
  refine k_iadd hF dL_law_1530 ?_
  refine kl_sld hF hS hp.1.1 hp.1.2 dL_law_1531 ?_
  refine k_aload_n hF dL_law_1532 rfl ?_
  refine k_iload hF dL_law_1533 rfl ?_
  refine k_iconst hF dL_law_1535 ci_2 ?_
  refine k_iadd hF dL_law_1536 ?_
  refine kl_sld hF hS hp.2.1.1 hp.2.1.2 dL_law_1537 ?_
  refine k_aload_n hF dL_law_1538 rfl ?_
  obtain ⟨z1, hz1, h⟩ := bind_some h
  refine kl_H hF hNc hA bc' bs' (as := [.ref (B + 0), .int p1, .int p2, .ref (B + 164)]) (ct_L_step hl (Nat.le_refl _) (Nat.add_le_add_left (Nat.le_of_ble_eq_true rfl) _) hz1) mh_L_216 rfl rfl ⟨Nat.le_of_ble_eq_true rfl, Nat.le_of_ble_eq_true rfl⟩ (Nat.le_of_ble_eq_true rfl) dL_law_1539 (by omega) (by omega) ?_
  refine k_st (st2 := [.int z1.1]) rfl ?_
  refine k_istore hF (L' := [some (.ref b), some (.ref (B + 0)), some (.ref (B + 121 + 0)), some (.ref (B + 164)), some (.int i), some (.int z1.1), none]) dL_law_1542 (by decide) rfl ?_
  refine k_aload_n hF dL_law_1544 rfl ?_
  refine k_aload_n hF dL_law_1545 rfl ?_
  refine k_iload hF dL_law_1546 rfl ?_
  refine k_iconst hF dL_law_1548 ci_1 ?_
  refine k_iadd hF dL_law_1549 ?_
  refine kl_sld hF hS hp.1.1 hp.1.2 dL_law_1550 ?_
  refine k_aload_n hF dL_law_1551 rfl ?_
  refine k_iload hF dL_law_1552 rfl ?_
  refine k_iconst hF dL_law_1554 ci_2 ?_
  refine k_iadd hF dL_law_1555 ?_
  refine kl_sld hF hS hp.2.1.1 hp.2.1.2 dL_law_1556 ?_
  obtain ⟨z2, hz2, h⟩ := bind_some h
  refine kl_M hF hA (as := [.int p1, .int p2]) (ct_X11_step (Nat.le_add_right _ _) hz2) mv_L_218 shR_0 rfl rfl rfl ⟨Nat.le_of_ble_eq_true rfl, Nat.le_of_ble_eq_true rfl⟩ (Nat.le_of_ble_eq_true rfl) dL_law_1557 ?_
  refine k_st (st2 := [.int z2.1]) rfl ?_
  refine k_istore hF (L' := [some (.ref b), some (.ref (B + 0)), some (.ref (B + 121 + 0)), some (.ref (B + 164)), some (.int i), some (.int z1.1), some (.int z2.1)]) dL_law_1560 (by decide) rfl ?_
  refine k_aload_n hF dL_law_1562 rfl ?_
  obtain ⟨z3, hz3, h⟩ := bind_some h
  refine kl_M hF hA (as := []) (ct_X11_thrown (Nat.le_add_right _ _) hz3) mv_L_137 shR_0 rfl rfl rfl ⟨Nat.le_of_ble_eq_true rfl, Nat.le_of_ble_eq_true rfl⟩ (Nat.le_of_ble_eq_true rfl) dL_law_1563 ?_
  refine k_st (st2 := [.int z3]) rfl ?_
  refine k_iload hF dL_law_1566 rfl ?_
  by_cases c4 : z3 = z1.1
  · replace h := ite_t c4 h
    refine k_icmp_eq hF (tgt := 1573) dL_law_1568 (by decide) (fun _ => ?_) (fun c => absurd c4 c)
    refine k_iload hF dL_law_1573 rfl ?_
    by_cases c5 : z1.1 = 0
    · replace h := ite_t c5 h
      refine k_if_ne hF (tgt := 1590) dL_law_1575 (by decide) (fun c => absurd c5 c) (fun _ => ?_)
      refine k_aload_n hF dL_law_1578 rfl ?_
      refine k_iconst hF dL_law_1579 ci_0 ?_
      refine kl_lald hF dL_law_1580 ?_
      refine k_iload hF dL_law_1581 rfl ?_
      refine k_i2l hF dL_law_1583 ?_
      refine k_lcmp hF dL_law_1584 ?_
      by_cases c6 : (lg_cmp z1.2.2 z2.1.toInt64) = 0
      · replace h := ite_t c6 h
        refine k_if_eq hF (tgt := 1590) dL_law_1585 (by decide) (fun _ => ?_) (fun c => absurd c6 c)
        refine k_goto hF (tgt := 2437) dL_law_1590 (by decide) ?_
        refine k_kill 5 rfl ?_
        refine k_kill 6 rfl ?_
        cases h
        exact kk
      · replace h := ite_f c6 h
        cases h
    · replace h := ite_f c5 h
      refine k_if_ne hF (tgt := 1590) dL_law_1575 (by decide) (fun _ => ?_) (fun c => absurd c c5)
      refine k_goto hF (tgt := 2437) dL_law_1590 (by decide) ?_
      refine k_kill 5 rfl ?_
      refine k_kill 6 rfl ?_
      cases h
      exact kk
  · replace h := ite_f c4 h
    cases h
set_option maxHeartbeats 4000000 in
theorem wLaw_c24 {p : Program} {l : Launch} {e : Env} {s : State} {m : MethodId} {args : Array Value} {below : List Frame} {meth : Method} {c : Code} {Q : State → Prop} {A : Nat → Prop} {D : DD} {B : Nat} (hF : KF D B cL_law RL A 7 601024 7293034 p l e room_1 s m args below meth c) (hl : l.stackTraces = false) (hNc : KNc s) (hA : ∀ q, B ≤ q → A q) {b Ls : Nat} {xs : Nat → Int32} (hS : SC b Ls xs A s) {i p1 p2 p3 p4 : Int32} (hp : PA xs Ls i p1 p2 p3 p4) {bc bs bc' bs' : Nat} (hbc : bc' + 6 ≤ bc) (hbs : bs' + 36 ≤ bs) {σC σR : St} {v : Int64} {z : LL} (h : fLaw_c24 σC σR v p1 p2 p3 p4 = some z)
    (kk : KJ (RepL D B) A 7 601024 7293034 Q p l e room_1 s m args below meth c bc' bs' 2437 [some (.ref b), some (.ref (B + 0)), some (.ref (B + 121 + 0)), some (.ref (B + 164)), some (.int i), none, none] [] z) : KJ (RepL D B) A 7 601024 7293034 Q p l e room_1 s m args below meth c bc bs 1593 [some (.ref b), some (.ref (B + 0)), some (.ref (B + 121 + 0)), some (.ref (B + 164)), some (.int i), none, none] [] (σC, σR, v) := by
  unfold fLaw_c24 at h
  refine k_aload_n hF dL_law_1593 rfl ?_
  refine k_aload_n hF dL_law_1594 rfl ?_
  obtain ⟨z1, hz1, h⟩ := bind_some h
  refine kl_H hF hNc hA bc' bs' (as := [.ref (B + 0), .ref (B + 164)]) (ct_L_pattern hl (Nat.le_refl _) (Nat.add_le_add_left (Nat.le_of_ble_eq_true rfl) _) hz1) mh_L_219 rfl rfl ⟨Nat.le_of_ble_eq_true rfl, Nat.le_of_ble_eq_true rfl⟩ (Nat.le_of_ble_eq_true rfl) dL_law_1595 (by omega) (by omega) ?_
  refine k_st (st2 := [.int z1.1]) rfl ?_
  refine k_istore hF (L' := [some (.ref b), some (.ref (B + 0)), some (.ref (B + 121 + 0)), some (.ref (B + 164)), some (.int i), some (.int z1.1), none]) dL_law_1598 (by decide) rfl ?_
  refine k_aload_n hF dL_law_1600 rfl ?_
  obtain ⟨z2, hz2, h⟩ := bind_some h
  refine kl_M hF hA (as := []) (ct_X11_pattern (Nat.le_add_right _ _) hz2) mv_L_221 shR_0 rfl rfl rfl ⟨Nat.le_of_ble_eq_true rfl, Nat.le_of_ble_eq_true rfl⟩ (Nat.le_of_ble_eq_true rfl) dL_law_1601 ?_
  refine k_st (st2 := [.int z2.1]) rfl ?_
  refine k_istore hF (L' := [some (.ref b), some (.ref (B + 0)), some (.ref (B + 121 + 0)), some (.ref (B + 164)), some (.int i), some (.int z1.1), some (.int z2.1)]) dL_law_1604 (by decide) rfl ?_
  refine k_aload_n hF dL_law_1606 rfl ?_
  obtain ⟨z3, hz3, h⟩ := bind_some h
  refine kl_M hF hA (as := []) (ct_X11_thrown (Nat.le_add_right _ _) hz3) mv_L_137 shR_0 rfl rfl rfl ⟨Nat.le_of_ble_eq_true rfl, Nat.le_of_ble_eq_true rfl⟩ (Nat.le_of_ble_eq_true rfl) dL_law_1607 ?_
  refine k_st (st2 := [.int z3]) rfl ?_
  refine k_iload hF dL_law_1610 rfl ?_
  by_cases c4 : z3 = z1.1
  · replace h := ite_t c4 h
    refine k_icmp_eq hF (tgt := 1617) dL_law_1612 (by decide) (fun _ => ?_) (fun c => absurd c4 c)
    refine k_iload hF dL_law_1617 rfl ?_
    by_cases c5 : z1.1 = 0
    · replace h := ite_t c5 h
      refine k_if_ne hF (tgt := 1634) dL_law_1619 (by decide) (fun c => absurd c5 c) (fun _ => ?_)
      refine k_aload_n hF dL_law_1622 rfl ?_
      refine k_iconst hF dL_law_1623 ci_0 ?_
      refine kl_lald hF dL_law_1624 ?_
      refine k_iload hF dL_law_1625 rfl ?_
      refine k_i2l hF dL_law_1627 ?_
      refine k_lcmp hF dL_law_1628 ?_
      by_cases c6 : (lg_cmp z1.2.2 z2.1.toInt64) = 0
      · replace h := ite_t c6 h
        refine k_if_eq hF (tgt := 1634) dL_law_1629 (by decide) (fun _ => ?_) (fun c => absurd c6 c)
        refine k_goto hF (tgt := 2437) dL_law_1634 (by decide) ?_
        refine k_kill 5 rfl ?_
        refine k_kill 6 rfl ?_
        cases h
        exact kk
      · replace h := ite_f c6 h
        cases h
    · replace h := ite_f c5 h
      refine k_if_ne hF (tgt := 1634) dL_law_1619 (by decide) (fun _ => ?_) (fun c => absurd c c5)
      refine k_goto hF (tgt := 2437) dL_law_1634 (by decide) ?_
      refine k_kill 5 rfl ?_
      refine k_kill 6 rfl ?_
      cases h
      exact kk
  · replace h := ite_f c4 h
    cases h
set_option maxHeartbeats 4000000 in
theorem wLaw_c25 {p : Program} {l : Launch} {e : Env} {s : State} {m : MethodId} {args : Array Value} {below : List Frame} {meth : Method} {c : Code} {Q : State → Prop} {A : Nat → Prop} {D : DD} {B : Nat} (hF : KF D B cL_law RL A 7 601024 7293034 p l e room_1 s m args below meth c) (hl : l.stackTraces = false) (hNc : KNc s) (hA : ∀ q, B ≤ q → A q) {b Ls : Nat} {xs : Nat → Int32} (hS : SC b Ls xs A s) {i p1 p2 p3 p4 : Int32} (hp : PA xs Ls i p1 p2 p3 p4) {bc bs bc' bs' : Nat} (hbc : bc' + 6 ≤ bc) (hbs : bs' + 36 ≤ bs) {σC σR : St} {v : Int64} {z : LL} (h : fLaw_c25 σC σR v p1 p2 p3 p4 = some z)
    (kk : KJ (RepL D B) A 7 601024 7293034 Q p l e room_1 s m args below meth c bc' bs' 2437 [some (.ref b), some (.ref (B + 0)), some (.ref (B + 121 + 0)), some (.ref (B + 164)), some (.int i), none, none] [] z) : KJ (RepL D B) A 7 601024 7293034 Q p l e room_1 s m args below meth c bc bs 1637 [some (.ref b), some (.ref (B + 0)), some (.ref (B + 121 + 0)), some (.ref (B + 164)), some (.int i), none, none] [] (σC, σR, v) := by
  unfold fLaw_c25 at h
  refine k_aload_n hF dL_law_1637 rfl ?_
  refine k_aload_n hF dL_law_1638 rfl ?_
  refine k_iload hF dL_law_1639 rfl ?_
  refine k_iconst hF dL_law_1641 ci_1 ?_
  refine k_iadd hF dL_law_1642 ?_
  refine kl_sld hF hS hp.1.1 hp.1.2 dL_law_1643 ?_
  refine k_aload_n hF dL_law_1644 rfl ?_
  refine k_iload hF dL_law_1645 rfl ?_
  refine k_iconst hF dL_law_1647 ci_2 ?_
  refine k_iadd hF dL_law_1648 ?_
  refine kl_sld hF hS hp.2.1.1 hp.2.1.2 dL_law_1649 ?_
  refine k_aload_n hF dL_law_1650 rfl ?_
  obtain ⟨z1, hz1, h⟩ := bind_some h
  refine kl_H hF hNc hA bc' bs' (as := [.ref (B + 0), .int p1, .int p2, .ref (B + 164)]) (ct_L_answer hl (Nat.le_refl _) (Nat.add_le_add_left (Nat.le_of_ble_eq_true rfl) _) hz1) mh_L_222 rfl rfl ⟨Nat.le_of_ble_eq_true rfl, Nat.le_of_ble_eq_true rfl⟩ (Nat.le_of_ble_eq_true rfl) dL_law_1651 (by omega) (by omega) ?_
  refine k_st (st2 := [.int z1.1]) rfl ?_
  refine k_istore hF (L' := [some (.ref b), some (.ref (B + 0)), some (.ref (B + 121 + 0)), some (.ref (B + 164)), some (.int i), some (.int z1.1), none]) dL_law_1654 (by decide) rfl ?_
  refine k_aload_n hF dL_law_1656 rfl ?_
  refine k_aload_n hF dL_law_1657 rfl ?_
  refine k_iload hF dL_law_1658 rfl ?_
  refine k_iconst hF dL_law_1660 ci_1 ?_
  refine k_iadd hF dL_law_1661 ?_
  refine kl_sld hF hS hp.1.1 hp.1.2 dL_law_1662 ?_
  refine k_aload_n hF dL_law_1663 rfl ?_
  refine k_iload hF dL_law_1664 rfl ?_
  refine k_iconst hF dL_law_1666 ci_2 ?_
  refine k_iadd hF dL_law_1667 ?_
  refine kl_sld hF hS hp.2.1.1 hp.2.1.2 dL_law_1668 ?_
  obtain ⟨z2, hz2, h⟩ := bind_some h
  refine kl_M hF hA (as := [.int p1, .int p2]) (ct_X11_answer (Nat.le_add_right _ _) hz2) mv_L_224 shR_0 rfl rfl rfl ⟨Nat.le_of_ble_eq_true rfl, Nat.le_of_ble_eq_true rfl⟩ (Nat.le_of_ble_eq_true rfl) dL_law_1669 ?_
  refine k_st (st2 := [.int z2.1]) rfl ?_
  refine k_istore hF (L' := [some (.ref b), some (.ref (B + 0)), some (.ref (B + 121 + 0)), some (.ref (B + 164)), some (.int i), some (.int z1.1), some (.int z2.1)]) dL_law_1672 (by decide) rfl ?_
  refine k_aload_n hF dL_law_1674 rfl ?_
  obtain ⟨z3, hz3, h⟩ := bind_some h
  refine kl_M hF hA (as := []) (ct_X11_thrown (Nat.le_add_right _ _) hz3) mv_L_137 shR_0 rfl rfl rfl ⟨Nat.le_of_ble_eq_true rfl, Nat.le_of_ble_eq_true rfl⟩ (Nat.le_of_ble_eq_true rfl) dL_law_1675 ?_
  refine k_st (st2 := [.int z3]) rfl ?_
  refine k_iload hF dL_law_1678 rfl ?_
  by_cases c4 : z3 = z1.1
  · replace h := ite_t c4 h
    refine k_icmp_eq hF (tgt := 1685) dL_law_1680 (by decide) (fun _ => ?_) (fun c => absurd c4 c)
    refine k_iload hF dL_law_1685 rfl ?_
    by_cases c5 : z1.1 = 0
    · replace h := ite_t c5 h
      refine k_if_ne hF (tgt := 1702) dL_law_1687 (by decide) (fun c => absurd c5 c) (fun _ => ?_)
      refine k_aload_n hF dL_law_1690 rfl ?_
      refine k_iconst hF dL_law_1691 ci_0 ?_
      refine kl_lald hF dL_law_1692 ?_
      refine k_iload hF dL_law_1693 rfl ?_
      refine k_i2l hF dL_law_1695 ?_
      refine k_lcmp hF dL_law_1696 ?_
      by_cases c6 : (lg_cmp z1.2.2 z2.1.toInt64) = 0
      · replace h := ite_t c6 h
        refine k_if_eq hF (tgt := 1702) dL_law_1697 (by decide) (fun _ => ?_) (fun c => absurd c6 c)
        refine k_goto hF (tgt := 2437) dL_law_1702 (by decide) ?_
        refine k_kill 5 rfl ?_
        refine k_kill 6 rfl ?_
        cases h
        exact kk
      · replace h := ite_f c6 h
        cases h
    · replace h := ite_f c5 h
      refine k_if_ne hF (tgt := 1702) dL_law_1687 (by decide) (fun _ => ?_) (fun c => absurd c c5)
      refine k_goto hF (tgt := 2437) dL_law_1702 (by decide) ?_
      refine k_kill 5 rfl ?_
      refine k_kill 6 rfl ?_
      cases h
      exact kk
  · replace h := ite_f c4 h
    cases h
set_option maxHeartbeats 4000000 in
theorem wLaw_c26 {p : Program} {l : Launch} {e : Env} {s : State} {m : MethodId} {args : Array Value} {below : List Frame} {meth : Method} {c : Code} {Q : State → Prop} {A : Nat → Prop} {D : DD} {B : Nat} (hF : KF D B cL_law RL A 7 601024 7293034 p l e room_1 s m args below meth c) (hl : l.stackTraces = false) (hNc : KNc s) (hA : ∀ q, B ≤ q → A q) {b Ls : Nat} {xs : Nat → Int32} (hS : SC b Ls xs A s) {i p1 p2 p3 p4 : Int32} (hp : PA xs Ls i p1 p2 p3 p4) {bc bs bc' bs' : Nat} (hbc : bc' + 6 ≤ bc) (hbs : bs' + 36 ≤ bs) {σC σR : St} {v : Int64} {z : LL} (h : fLaw_c26 σC σR v p1 p2 p3 p4 = some z)
    (kk : KJ (RepL D B) A 7 601024 7293034 Q p l e room_1 s m args below meth c bc' bs' 2437 [some (.ref b), some (.ref (B + 0)), some (.ref (B + 121 + 0)), some (.ref (B + 164)), some (.int i), none, none] [] z) : KJ (RepL D B) A 7 601024 7293034 Q p l e room_1 s m args below meth c bc bs 1705 [some (.ref b), some (.ref (B + 0)), some (.ref (B + 121 + 0)), some (.ref (B + 164)), some (.int i), none, none] [] (σC, σR, v) := by
  unfold fLaw_c26 at h
  refine k_aload_n hF dL_law_1705 rfl ?_
  refine k_aload_n hF dL_law_1706 rfl ?_
  refine k_iload hF dL_law_1707 rfl ?_
  refine k_iconst hF dL_law_1709 ci_1 ?_
  refine k_iadd hF dL_law_1710 ?_
  refine kl_sld hF hS hp.1.1 hp.1.2 dL_law_1711 ?_
  refine k_aload_n hF dL_law_1712 rfl ?_
  refine k_iload hF dL_law_1713 rfl ?_
  refine k_iconst hF dL_law_1715 ci_2 ?_
  refine k_iadd hF dL_law_1716 ?_
  refine kl_sld hF hS hp.2.1.1 hp.2.1.2 dL_law_1717 ?_
  refine k_aload_n hF dL_law_1718 rfl ?_
  obtain ⟨z1, hz1, h⟩ := bind_some h
  refine kl_H hF hNc hA bc' bs' (as := [.ref (B + 0), .int p1, .int p2, .ref (B + 164)]) (ct_L_answerAnew hl (Nat.le_refl _) (Nat.add_le_add_left (Nat.le_of_ble_eq_true rfl) _) hz1) mh_L_225 rfl rfl ⟨Nat.le_of_ble_eq_true rfl, Nat.le_of_ble_eq_true rfl⟩ (Nat.le_of_ble_eq_true rfl) dL_law_1719 (by omega) (by omega) ?_
  refine k_st (st2 := [.int z1.1]) rfl ?_
  refine k_istore hF (L' := [some (.ref b), some (.ref (B + 0)), some (.ref (B + 121 + 0)), some (.ref (B + 164)), some (.int i), some (.int z1.1), none]) dL_law_1722 (by decide) rfl ?_
  refine k_aload_n hF dL_law_1724 rfl ?_
  refine k_aload_n hF dL_law_1725 rfl ?_
  refine k_iload hF dL_law_1726 rfl ?_
  refine k_iconst hF dL_law_1728 ci_1 ?_
  refine k_iadd hF dL_law_1729 ?_
  refine kl_sld hF hS hp.1.1 hp.1.2 dL_law_1730 ?_
  refine k_aload_n hF dL_law_1731 rfl ?_
  refine k_iload hF dL_law_1732 rfl ?_
  refine k_iconst hF dL_law_1734 ci_2 ?_
  refine k_iadd hF dL_law_1735 ?_
  refine kl_sld hF hS hp.2.1.1 hp.2.1.2 dL_law_1736 ?_
  obtain ⟨z2, hz2, h⟩ := bind_some h
  refine kl_M hF hA (as := [.int p1, .int p2]) (ct_X11_answerAnew (Nat.le_add_right _ _) hz2) mv_L_227 shR_0 rfl rfl rfl ⟨Nat.le_of_ble_eq_true rfl, Nat.le_of_ble_eq_true rfl⟩ (Nat.le_of_ble_eq_true rfl) dL_law_1737 ?_
  refine k_st (st2 := [.int z2.1]) rfl ?_
  refine k_istore hF (L' := [some (.ref b), some (.ref (B + 0)), some (.ref (B + 121 + 0)), some (.ref (B + 164)), some (.int i), some (.int z1.1), some (.int z2.1)]) dL_law_1740 (by decide) rfl ?_
  refine k_aload_n hF dL_law_1742 rfl ?_
  obtain ⟨z3, hz3, h⟩ := bind_some h
  refine kl_M hF hA (as := []) (ct_X11_thrown (Nat.le_add_right _ _) hz3) mv_L_137 shR_0 rfl rfl rfl ⟨Nat.le_of_ble_eq_true rfl, Nat.le_of_ble_eq_true rfl⟩ (Nat.le_of_ble_eq_true rfl) dL_law_1743 ?_
  refine k_st (st2 := [.int z3]) rfl ?_
  refine k_iload hF dL_law_1746 rfl ?_
  by_cases c4 : z3 = z1.1
  · replace h := ite_t c4 h
    refine k_icmp_eq hF (tgt := 1753) dL_law_1748 (by decide) (fun _ => ?_) (fun c => absurd c4 c)
    refine k_iload hF dL_law_1753 rfl ?_
    by_cases c5 : z1.1 = 0
    · replace h := ite_t c5 h
      refine k_if_ne hF (tgt := 1770) dL_law_1755 (by decide) (fun c => absurd c5 c) (fun _ => ?_)
      refine k_aload_n hF dL_law_1758 rfl ?_
      refine k_iconst hF dL_law_1759 ci_0 ?_
      refine kl_lald hF dL_law_1760 ?_
      refine k_iload hF dL_law_1761 rfl ?_
      refine k_i2l hF dL_law_1763 ?_
      refine k_lcmp hF dL_law_1764 ?_
      by_cases c6 : (lg_cmp z1.2.2 z2.1.toInt64) = 0
      · replace h := ite_t c6 h
        refine k_if_eq hF (tgt := 1770) dL_law_1765 (by decide) (fun _ => ?_) (fun c => absurd c6 c)
        refine k_goto hF (tgt := 2437) dL_law_1770 (by decide) ?_
        refine k_kill 5 rfl ?_
        refine k_kill 6 rfl ?_
        cases h
        exact kk
      · replace h := ite_f c6 h
        cases h
    · replace h := ite_f c5 h
      refine k_if_ne hF (tgt := 1770) dL_law_1755 (by decide) (fun _ => ?_) (fun c => absurd c c5)
      refine k_goto hF (tgt := 2437) dL_law_1770 (by decide) ?_
      refine k_kill 5 rfl ?_
      refine k_kill 6 rfl ?_
      cases h
      exact kk
  · replace h := ite_f c4 h
    cases h
set_option maxHeartbeats 4000000 in
theorem wLaw_c27 {p : Program} {l : Launch} {e : Env} {s : State} {m : MethodId} {args : Array Value} {below : List Frame} {meth : Method} {c : Code} {Q : State → Prop} {A : Nat → Prop} {D : DD} {B : Nat} (hF : KF D B cL_law RL A 7 601024 7293034 p l e room_1 s m args below meth c) (hl : l.stackTraces = false) (hNc : KNc s) (hA : ∀ q, B ≤ q → A q) {b Ls : Nat} {xs : Nat → Int32} (hS : SC b Ls xs A s) {i p1 p2 p3 p4 : Int32} (hp : PA xs Ls i p1 p2 p3 p4) {bc bs bc' bs' : Nat} (hbc : bc' + 6 ≤ bc) (hbs : bs' + 36 ≤ bs) {σC σR : St} {v : Int64} {z : LL} (h : fLaw_c27 σC σR v p1 p2 p3 p4 = some z)
    (kk : KJ (RepL D B) A 7 601024 7293034 Q p l e room_1 s m args below meth c bc' bs' 2437 [some (.ref b), some (.ref (B + 0)), some (.ref (B + 121 + 0)), some (.ref (B + 164)), some (.int i), none, none] [] z) : KJ (RepL D B) A 7 601024 7293034 Q p l e room_1 s m args below meth c bc bs 1773 [some (.ref b), some (.ref (B + 0)), some (.ref (B + 121 + 0)), some (.ref (B + 164)), some (.int i), none, none] [] (σC, σR, v) := by
  unfold fLaw_c27 at h
  refine k_aload_n hF dL_law_1773 rfl ?_
  refine k_aload_n hF dL_law_1774 rfl ?_
  refine k_iload hF dL_law_1775 rfl ?_
  refine k_iconst hF dL_law_1777 ci_1 ?_
  refine k_iadd hF dL_law_1778 ?_
  refine kl_sld hF hS hp.1.1 hp.1.2 dL_law_1779 ?_
  refine k_aload_n hF dL_law_1780 rfl ?_
  obtain ⟨z1, hz1, h⟩ := bind_some h
  refine kl_H hF hNc hA bc' bs' (as := [.ref (B + 0), .int p1, .ref (B + 164)]) (ct_L_pairs hl (Nat.le_refl _) (Nat.add_le_add_left (Nat.le_of_ble_eq_true rfl) _) hz1) mh_L_228 rfl rfl ⟨Nat.le_of_ble_eq_true rfl, Nat.le_of_ble_eq_true rfl⟩ (Nat.le_of_ble_eq_true rfl) dL_law_1781 (by omega) (by omega) ?_
  refine k_st (st2 := [.int z1.1]) rfl ?_
  refine k_istore hF (L' := [some (.ref b), some (.ref (B + 0)), some (.ref (B + 121 + 0)), some (.ref (B + 164)), some (.int i), some (.int z1.1), none]) dL_law_1784 (by decide) rfl ?_
  refine k_aload_n hF dL_law_1786 rfl ?_
  refine k_aload_n hF dL_law_1787 rfl ?_
  refine k_iload hF dL_law_1788 rfl ?_
  refine k_iconst hF dL_law_1790 ci_1 ?_
  refine k_iadd hF dL_law_1791 ?_
  refine kl_sld hF hS hp.1.1 hp.1.2 dL_law_1792 ?_
  obtain ⟨z2, hz2, h⟩ := bind_some h
  refine kl_M hF hA (as := [.int p1]) (ct_X11_pairs (Nat.le_add_right _ _) hz2) mv_L_230 shR_0 rfl rfl rfl ⟨Nat.le_of_ble_eq_true rfl, Nat.le_of_ble_eq_true rfl⟩ (Nat.le_of_ble_eq_true rfl) dL_law_1793 ?_
  refine k_st (st2 := [.int z2.1]) rfl ?_
  refine k_istore hF (L' := [some (.ref b), some (.ref (B + 0)), some (.ref (B + 121 + 0)), some (.ref (B + 164)), some (.int i), some (.int z1.1), some (.int z2.1)]) dL_law_1796 (by decide) rfl ?_
  refine k_aload_n hF dL_law_1798 rfl ?_
  obtain ⟨z3, hz3, h⟩ := bind_some h
  refine kl_M hF hA (as := []) (ct_X11_thrown (Nat.le_add_right _ _) hz3) mv_L_137 shR_0 rfl rfl rfl ⟨Nat.le_of_ble_eq_true rfl, Nat.le_of_ble_eq_true rfl⟩ (Nat.le_of_ble_eq_true rfl) dL_law_1799 ?_
  refine k_st (st2 := [.int z3]) rfl ?_
  refine k_iload hF dL_law_1802 rfl ?_
  by_cases c4 : z3 = z1.1
  · replace h := ite_t c4 h
    refine k_icmp_eq hF (tgt := 1809) dL_law_1804 (by decide) (fun _ => ?_) (fun c => absurd c4 c)
    refine k_iload hF dL_law_1809 rfl ?_
    by_cases c5 : z1.1 = 0
    · replace h := ite_t c5 h
      refine k_if_ne hF (tgt := 1826) dL_law_1811 (by decide) (fun c => absurd c5 c) (fun _ => ?_)
      refine k_aload_n hF dL_law_1814 rfl ?_
      refine k_iconst hF dL_law_1815 ci_0 ?_
      refine kl_lald hF dL_law_1816 ?_
      refine k_iload hF dL_law_1817 rfl ?_
      refine k_i2l hF dL_law_1819 ?_
      refine k_lcmp hF dL_law_1820 ?_
      by_cases c6 : (lg_cmp z1.2.2 z2.1.toInt64) = 0
      · replace h := ite_t c6 h
        refine k_if_eq hF (tgt := 1826) dL_law_1821 (by decide) (fun _ => ?_) (fun c => absurd c6 c)
        refine k_goto hF (tgt := 2437) dL_law_1826 (by decide) ?_
        refine k_kill 5 rfl ?_
        refine k_kill 6 rfl ?_
        cases h
        exact kk
      · replace h := ite_f c6 h
        cases h
    · replace h := ite_f c5 h
      refine k_if_ne hF (tgt := 1826) dL_law_1811 (by decide) (fun _ => ?_) (fun c => absurd c c5)
      refine k_goto hF (tgt := 2437) dL_law_1826 (by decide) ?_
      refine k_kill 5 rfl ?_
      refine k_kill 6 rfl ?_
      cases h
      exact kk
  · replace h := ite_f c4 h
    cases h
set_option maxHeartbeats 4000000 in
theorem wLaw_c28 {p : Program} {l : Launch} {e : Env} {s : State} {m : MethodId} {args : Array Value} {below : List Frame} {meth : Method} {c : Code} {Q : State → Prop} {A : Nat → Prop} {D : DD} {B : Nat} (hF : KF D B cL_law RL A 7 601024 7293034 p l e room_1 s m args below meth c) (hl : l.stackTraces = false) (hNc : KNc s) (hA : ∀ q, B ≤ q → A q) {b Ls : Nat} {xs : Nat → Int32} (hS : SC b Ls xs A s) {i p1 p2 p3 p4 : Int32} (hp : PA xs Ls i p1 p2 p3 p4) {bc bs bc' bs' : Nat} (hbc : bc' + 6 ≤ bc) (hbs : bs' + 36 ≤ bs) {σC σR : St} {v : Int64} {z : LL} (h : fLaw_c28 σC σR v p1 p2 p3 p4 = some z)
    (kk : KJ (RepL D B) A 7 601024 7293034 Q p l e room_1 s m args below meth c bc' bs' 2437 [some (.ref b), some (.ref (B + 0)), some (.ref (B + 121 + 0)), some (.ref (B + 164)), some (.int i), none, none] [] z) : KJ (RepL D B) A 7 601024 7293034 Q p l e room_1 s m args below meth c bc bs 1829 [some (.ref b), some (.ref (B + 0)), some (.ref (B + 121 + 0)), some (.ref (B + 164)), some (.int i), none, none] [] (σC, σR, v) := by
  unfold fLaw_c28 at h
  refine k_aload_n hF dL_law_1829 rfl ?_
  refine k_aload_n hF dL_law_1830 rfl ?_
  refine k_iload hF dL_law_1831 rfl ?_
  refine k_iconst hF dL_law_1833 ci_1 ?_
  refine k_iadd hF dL_law_1834 ?_
  refine kl_sld hF hS hp.1.1 hp.1.2 dL_law_1835 ?_
  refine k_aload_n hF dL_law_1836 rfl ?_
  refine k_iload hF dL_law_1837 rfl ?_
  refine k_iconst hF dL_law_1839 ci_2 ?_
  refine k_iadd hF dL_law_1840 ?_
  refine kl_sld hF hS hp.2.1.1 hp.2.1.2 dL_law_1841 ?_
  refine k_aload_n hF dL_law_1842 rfl ?_
  obtain ⟨z1, hz1, h⟩ := bind_some h
  refine kl_H hF hNc hA bc' bs' (as := [.ref (B + 0), .int p1, .int p2, .ref (B + 164)]) (ct_L_isWhole hl (Nat.le_refl _) (Nat.add_le_add_left (Nat.le_of_ble_eq_true rfl) _) hz1) mh_L_231 rfl rfl ⟨Nat.le_of_ble_eq_true rfl, Nat.le_of_ble_eq_true rfl⟩ (Nat.le_of_ble_eq_true rfl) dL_law_1843 (by omega) (by omega) ?_
  refine k_st (st2 := [.int z1.1]) rfl ?_
  refine k_istore hF (L' := [some (.ref b), some (.ref (B + 0)), some (.ref (B + 121 + 0)), some (.ref (B + 164)), some (.int i), some (.int z1.1), none]) dL_law_1846 (by decide) rfl ?_
  refine k_aload_n hF dL_law_1848 rfl ?_
  refine k_aload_n hF dL_law_1849 rfl ?_
  refine k_iload hF dL_law_1850 rfl ?_
  refine k_iconst hF dL_law_1852 ci_1 ?_
  refine k_iadd hF dL_law_1853 ?_
  refine kl_sld hF hS hp.1.1 hp.1.2 dL_law_1854 ?_
  refine k_aload_n hF dL_law_1855 rfl ?_
  refine k_iload hF dL_law_1856 rfl ?_
  refine k_iconst hF dL_law_1858 ci_2 ?_
  refine k_iadd hF dL_law_1859 ?_
  refine kl_sld hF hS hp.2.1.1 hp.2.1.2 dL_law_1860 ?_
  obtain ⟨z2, hz2, h⟩ := bind_some h
  refine kl_M hF hA (as := [.int p1, .int p2]) (ct_X11_isWhole (Nat.le_add_right _ _) hz2) mv_L_233 shR_0 rfl rfl rfl ⟨Nat.le_of_ble_eq_true rfl, Nat.le_of_ble_eq_true rfl⟩ (Nat.le_of_ble_eq_true rfl) dL_law_1861 ?_
  refine k_st (st2 := [.int z2.1]) rfl ?_
  refine k_istore hF (L' := [some (.ref b), some (.ref (B + 0)), some (.ref (B + 121 + 0)), some (.ref (B + 164)), some (.int i), some (.int z1.1), some (.int z2.1)]) dL_law_1864 (by decide) rfl ?_
  refine k_aload_n hF dL_law_1866 rfl ?_
  obtain ⟨z3, hz3, h⟩ := bind_some h
  refine kl_M hF hA (as := []) (ct_X11_thrown (Nat.le_add_right _ _) hz3) mv_L_137 shR_0 rfl rfl rfl ⟨Nat.le_of_ble_eq_true rfl, Nat.le_of_ble_eq_true rfl⟩ (Nat.le_of_ble_eq_true rfl) dL_law_1867 ?_
  refine k_st (st2 := [.int z3]) rfl ?_
  refine k_iload hF dL_law_1870 rfl ?_
  by_cases c4 : z3 = z1.1
  · replace h := ite_t c4 h
    refine k_icmp_eq hF (tgt := 1877) dL_law_1872 (by decide) (fun _ => ?_) (fun c => absurd c4 c)
    refine k_iload hF dL_law_1877 rfl ?_
    by_cases c5 : z1.1 = 0
    · replace h := ite_t c5 h
      refine k_if_ne hF (tgt := 1901) dL_law_1879 (by decide) (fun c => absurd c5 c) (fun _ => ?_)
      refine k_aload_n hF dL_law_1882 rfl ?_
      refine k_iconst hF dL_law_1883 ci_0 ?_
      refine kl_lald hF dL_law_1884 ?_
      refine k_iload hF dL_law_1885 rfl ?_
      by_cases c6 : z2.1 = 0
      · replace h := ite_t c6 h
        refine k_if_eq hF (tgt := 1894) dL_law_1887 (by decide) (fun _ => ?_) (fun c => absurd c6 c)
        refine k_lconst hF (v := (0 : Int64)) dL_law_1894 (by decide) ?_
        refine k_lcmp hF dL_law_1895 ?_
        by_cases c7 : (lg_cmp z1.2.2 (0 : Int64)) = 0
        · replace h := ite_t c7 h
          refine k_if_eq hF (tgt := 1901) dL_law_1896 (by decide) (fun _ => ?_) (fun c => absurd c7 c)
          refine k_goto hF (tgt := 2437) dL_law_1901 (by decide) ?_
          refine k_kill 5 rfl ?_
          refine k_kill 6 rfl ?_
          cases h
          exact kk
        · replace h := ite_f c7 h
          cases h
      · replace h := ite_f c6 h
        refine k_if_eq hF (tgt := 1894) dL_law_1887 (by decide) (fun c => absurd c c6) (fun _ => ?_)
        refine k_lconst hF (v := (1 : Int64)) dL_law_1890 (by decide) ?_
        refine k_goto hF (tgt := 1895) dL_law_1891 (by decide) ?_
        refine k_lcmp hF dL_law_1895 ?_
        by_cases c8 : (lg_cmp z1.2.2 (1 : Int64)) = 0
        · replace h := ite_t c8 h
          refine k_if_eq hF (tgt := 1901) dL_law_1896 (by decide) (fun _ => ?_) (fun c => absurd c8 c)
          refine k_goto hF (tgt := 2437) dL_law_1901 (by decide) ?_
          refine k_kill 5 rfl ?_
          refine k_kill 6 rfl ?_
          cases h
          exact kk
        · replace h := ite_f c8 h
          cases h
    · replace h := ite_f c5 h
      refine k_if_ne hF (tgt := 1901) dL_law_1879 (by decide) (fun _ => ?_) (fun c => absurd c c5)
      refine k_goto hF (tgt := 2437) dL_law_1901 (by decide) ?_
      refine k_kill 5 rfl ?_
      refine k_kill 6 rfl ?_
      cases h
      exact kk
  · replace h := ite_f c4 h
    cases h
set_option maxHeartbeats 4000000 in
theorem wLaw_c29 {p : Program} {l : Launch} {e : Env} {s : State} {m : MethodId} {args : Array Value} {below : List Frame} {meth : Method} {c : Code} {Q : State → Prop} {A : Nat → Prop} {D : DD} {B : Nat} (hF : KF D B cL_law RL A 7 601024 7293034 p l e room_1 s m args below meth c) (hl : l.stackTraces = false) (hNc : KNc s) (hA : ∀ q, B ≤ q → A q) {b Ls : Nat} {xs : Nat → Int32} (hS : SC b Ls xs A s) {i p1 p2 p3 p4 : Int32} (hp : PA xs Ls i p1 p2 p3 p4) {bc bs bc' bs' : Nat} (hbc : bc' + 6 ≤ bc) (hbs : bs' + 36 ≤ bs) {σC σR : St} {v : Int64} {z : LL} (h : fLaw_c29 σC σR v p1 p2 p3 p4 = some z)
    (kk : KJ (RepL D B) A 7 601024 7293034 Q p l e room_1 s m args below meth c bc' bs' 2437 [some (.ref b), some (.ref (B + 0)), some (.ref (B + 121 + 0)), some (.ref (B + 164)), some (.int i), none, none] [] z) : KJ (RepL D B) A 7 601024 7293034 Q p l e room_1 s m args below meth c bc bs 1904 [some (.ref b), some (.ref (B + 0)), some (.ref (B + 121 + 0)), some (.ref (B + 164)), some (.int i), none, none] [] (σC, σR, v) := by
  unfold fLaw_c29 at h
  refine k_aload_n hF dL_law_1904 rfl ?_
  refine k_aload_n hF dL_law_1905 rfl ?_
  refine k_iload hF dL_law_1906 rfl ?_
  refine k_iconst hF dL_law_1908 ci_1 ?_
  refine k_iadd hF dL_law_1909 ?_
  refine kl_sld hF hS hp.1.1 hp.1.2 dL_law_1910 ?_
  refine k_aload_n hF dL_law_1911 rfl ?_
  refine k_iload hF dL_law_1912 rfl ?_
  refine k_iconst hF dL_law_1914 ci_2 ?_
  refine k_iadd hF dL_law_1915 ?_
  refine kl_sld hF hS hp.2.1.1 hp.2.1.2 dL_law_1916 ?_
  refine k_aload_n hF dL_law_1917 rfl ?_
  refine k_iload hF dL_law_1918 rfl ?_
  refine k_iconst hF dL_law_1920 ci_3 ?_
  refine k_iadd hF dL_law_1921 ?_
  refine kl_sld hF hS hp.2.2.1.1 hp.2.2.1.2 dL_law_1922 ?_
  refine k_aload_n hF dL_law_1923 rfl ?_
  obtain ⟨z1, hz1, h⟩ := bind_some h
  refine kl_H hF hNc hA bc' bs' (as := [.ref (B + 0), .int p1, .int p2, .int p3, .ref (B + 164)]) (ct_L_rule hl (Nat.le_refl _) (Nat.add_le_add_left (Nat.le_of_ble_eq_true rfl) _) hz1) mh_L_234 rfl rfl ⟨Nat.le_of_ble_eq_true rfl, Nat.le_of_ble_eq_true rfl⟩ (Nat.le_of_ble_eq_true rfl) dL_law_1924 (by omega) (by omega) ?_
  refine k_st (st2 := [.int z1.1]) rfl ?_
  refine k_istore hF (L' := [some (.ref b), some (.ref (B + 0)), some (.ref (B + 121 + 0)), some (.ref (B + 164)), some (.int i), some (.int z1.1), none]) dL_law_1927 (by decide) rfl ?_
  refine k_aload_n hF dL_law_1929 rfl ?_
  refine k_aload_n hF dL_law_1930 rfl ?_
  refine k_iload hF dL_law_1931 rfl ?_
  refine k_iconst hF dL_law_1933 ci_1 ?_
  refine k_iadd hF dL_law_1934 ?_
  refine kl_sld hF hS hp.1.1 hp.1.2 dL_law_1935 ?_
  refine k_aload_n hF dL_law_1936 rfl ?_
  refine k_iload hF dL_law_1937 rfl ?_
  refine k_iconst hF dL_law_1939 ci_2 ?_
  refine k_iadd hF dL_law_1940 ?_
  refine kl_sld hF hS hp.2.1.1 hp.2.1.2 dL_law_1941 ?_
  refine k_aload_n hF dL_law_1942 rfl ?_
  refine k_iload hF dL_law_1943 rfl ?_
  refine k_iconst hF dL_law_1945 ci_3 ?_
  refine k_iadd hF dL_law_1946 ?_
  refine kl_sld hF hS hp.2.2.1.1 hp.2.2.1.2 dL_law_1947 ?_
  obtain ⟨z2, hz2, h⟩ := bind_some h
  refine kl_M hF hA (as := [.int p1, .int p2, .int p3]) (ct_X11_rule (Nat.le_add_right _ _) hz2) mv_L_236 shR_0 rfl rfl rfl ⟨Nat.le_of_ble_eq_true rfl, Nat.le_of_ble_eq_true rfl⟩ (Nat.le_of_ble_eq_true rfl) dL_law_1948 ?_
  refine k_st (st2 := [.int z2.1]) rfl ?_
  refine k_istore hF (L' := [some (.ref b), some (.ref (B + 0)), some (.ref (B + 121 + 0)), some (.ref (B + 164)), some (.int i), some (.int z1.1), some (.int z2.1)]) dL_law_1951 (by decide) rfl ?_
  refine k_aload_n hF dL_law_1953 rfl ?_
  obtain ⟨z3, hz3, h⟩ := bind_some h
  refine kl_M hF hA (as := []) (ct_X11_thrown (Nat.le_add_right _ _) hz3) mv_L_137 shR_0 rfl rfl rfl ⟨Nat.le_of_ble_eq_true rfl, Nat.le_of_ble_eq_true rfl⟩ (Nat.le_of_ble_eq_true rfl) dL_law_1954 ?_
  refine k_st (st2 := [.int z3]) rfl ?_
  refine k_iload hF dL_law_1957 rfl ?_
  by_cases c4 : z3 = z1.1
  · replace h := ite_t c4 h
    refine k_icmp_eq hF (tgt := 1964) dL_law_1959 (by decide) (fun _ => ?_) (fun c => absurd c4 c)
    refine k_iload hF dL_law_1964 rfl ?_
    by_cases c5 : z1.1 = 0
    · replace h := ite_t c5 h
      refine k_if_ne hF (tgt := 1981) dL_law_1966 (by decide) (fun c => absurd c5 c) (fun _ => ?_)
      refine k_aload_n hF dL_law_1969 rfl ?_
      refine k_iconst hF dL_law_1970 ci_0 ?_
      refine kl_lald hF dL_law_1971 ?_
      refine k_iload hF dL_law_1972 rfl ?_
      refine k_i2l hF dL_law_1974 ?_
      refine k_lcmp hF dL_law_1975 ?_
      by_cases c6 : (lg_cmp z1.2.2 z2.1.toInt64) = 0
      · replace h := ite_t c6 h
        refine k_if_eq hF (tgt := 1981) dL_law_1976 (by decide) (fun _ => ?_) (fun c => absurd c6 c)
        refine k_goto hF (tgt := 2437) dL_law_1981 (by decide) ?_
        refine k_kill 5 rfl ?_
        refine k_kill 6 rfl ?_
        cases h
        exact kk
      · replace h := ite_f c6 h
        cases h
    · replace h := ite_f c5 h
      refine k_if_ne hF (tgt := 1981) dL_law_1966 (by decide) (fun _ => ?_) (fun c => absurd c c5)
      refine k_goto hF (tgt := 2437) dL_law_1981 (by decide) ?_
      refine k_kill 5 rfl ?_
      refine k_kill 6 rfl ?_
      cases h
      exact kk
  · replace h := ite_f c4 h
    cases h
set_option maxHeartbeats 4000000 in
theorem wLaw_c30 {p : Program} {l : Launch} {e : Env} {s : State} {m : MethodId} {args : Array Value} {below : List Frame} {meth : Method} {c : Code} {Q : State → Prop} {A : Nat → Prop} {D : DD} {B : Nat} (hF : KF D B cL_law RL A 7 601024 7293034 p l e room_1 s m args below meth c) (hl : l.stackTraces = false) (hNc : KNc s) (hA : ∀ q, B ≤ q → A q) {b Ls : Nat} {xs : Nat → Int32} (hS : SC b Ls xs A s) {i p1 p2 p3 p4 : Int32} (hp : PA xs Ls i p1 p2 p3 p4) {bc bs bc' bs' : Nat} (hbc : bc' + 6 ≤ bc) (hbs : bs' + 36 ≤ bs) {σC σR : St} {v : Int64} {z : LL} (h : fLaw_c30 σC σR v p1 p2 p3 p4 = some z)
    (kk : KJ (RepL D B) A 7 601024 7293034 Q p l e room_1 s m args below meth c bc' bs' 2437 [some (.ref b), some (.ref (B + 0)), some (.ref (B + 121 + 0)), some (.ref (B + 164)), some (.int i), none, none] [] z) : KJ (RepL D B) A 7 601024 7293034 Q p l e room_1 s m args below meth c bc bs 1984 [some (.ref b), some (.ref (B + 0)), some (.ref (B + 121 + 0)), some (.ref (B + 164)), some (.int i), none, none] [] (σC, σR, v) := by
  unfold fLaw_c30 at h
  refine k_aload_n hF dL_law_1984 rfl ?_
  refine k_aload_n hF dL_law_1985 rfl ?_
  refine k_iload hF dL_law_1986 rfl ?_
  refine k_iconst hF dL_law_1988 ci_1 ?_
  refine k_iadd hF dL_law_1989 ?_
  refine kl_sld hF hS hp.1.1 hp.1.2 dL_law_1990 ?_
  refine k_aload_n hF dL_law_1991 rfl ?_
  obtain ⟨z1, hz1, h⟩ := bind_some h
  refine kl_H hF hNc hA bc' bs' (as := [.ref (B + 0), .int p1, .ref (B + 164)]) (ct_L_dropRule hl (Nat.le_refl _) (Nat.add_le_add_left (Nat.le_of_ble_eq_true rfl) _) hz1) mh_L_237 rfl rfl ⟨Nat.le_of_ble_eq_true rfl, Nat.le_of_ble_eq_true rfl⟩ (Nat.le_of_ble_eq_true rfl) dL_law_1992 (by omega) (by omega) ?_
  refine k_st (st2 := [.int z1.1]) rfl ?_
  refine k_istore hF (L' := [some (.ref b), some (.ref (B + 0)), some (.ref (B + 121 + 0)), some (.ref (B + 164)), some (.int i), some (.int z1.1), none]) dL_law_1995 (by decide) rfl ?_
  refine k_aload_n hF dL_law_1997 rfl ?_
  refine k_aload_n hF dL_law_1998 rfl ?_
  refine k_iload hF dL_law_1999 rfl ?_
  refine k_iconst hF dL_law_2001 ci_1 ?_
  refine k_iadd hF dL_law_2002 ?_
  refine kl_sld hF hS hp.1.1 hp.1.2 dL_law_2003 ?_
  obtain ⟨z2, hz2, h⟩ := bind_some h
  refine kl_M hF hA (as := [.int p1]) (ct_X11_dropRule (Nat.le_add_right _ _) hz2) mv_L_239 shR_0 rfl rfl rfl ⟨Nat.le_of_ble_eq_true rfl, Nat.le_of_ble_eq_true rfl⟩ (Nat.le_of_ble_eq_true rfl) dL_law_2004 ?_
  refine k_st (st2 := [.int z2.1]) rfl ?_
  refine k_istore hF (L' := [some (.ref b), some (.ref (B + 0)), some (.ref (B + 121 + 0)), some (.ref (B + 164)), some (.int i), some (.int z1.1), some (.int z2.1)]) dL_law_2007 (by decide) rfl ?_
  refine k_aload_n hF dL_law_2009 rfl ?_
  obtain ⟨z3, hz3, h⟩ := bind_some h
  refine kl_M hF hA (as := []) (ct_X11_thrown (Nat.le_add_right _ _) hz3) mv_L_137 shR_0 rfl rfl rfl ⟨Nat.le_of_ble_eq_true rfl, Nat.le_of_ble_eq_true rfl⟩ (Nat.le_of_ble_eq_true rfl) dL_law_2010 ?_
  refine k_st (st2 := [.int z3]) rfl ?_
  refine k_iload hF dL_law_2013 rfl ?_
  by_cases c4 : z3 = z1.1
  · replace h := ite_t c4 h
    refine k_icmp_eq hF (tgt := 2020) dL_law_2015 (by decide) (fun _ => ?_) (fun c => absurd c4 c)
    refine k_iload hF dL_law_2020 rfl ?_
    by_cases c5 : z1.1 = 0
    · replace h := ite_t c5 h
      refine k_if_ne hF (tgt := 2037) dL_law_2022 (by decide) (fun c => absurd c5 c) (fun _ => ?_)
      refine k_aload_n hF dL_law_2025 rfl ?_
      refine k_iconst hF dL_law_2026 ci_0 ?_
      refine kl_lald hF dL_law_2027 ?_
      refine k_iload hF dL_law_2028 rfl ?_
      refine k_i2l hF dL_law_2030 ?_
      refine k_lcmp hF dL_law_2031 ?_
      by_cases c6 : (lg_cmp z1.2.2 z2.1.toInt64) = 0
      · replace h := ite_t c6 h
        refine k_if_eq hF (tgt := 2037) dL_law_2032 (by decide) (fun _ => ?_) (fun c => absurd c6 c)
        refine k_goto hF (tgt := 2437) dL_law_2037 (by decide) ?_
        refine k_kill 5 rfl ?_
        refine k_kill 6 rfl ?_
        cases h
        exact kk
      · replace h := ite_f c6 h
        cases h
    · replace h := ite_f c5 h
      refine k_if_ne hF (tgt := 2037) dL_law_2022 (by decide) (fun _ => ?_) (fun c => absurd c c5)
      refine k_goto hF (tgt := 2437) dL_law_2037 (by decide) ?_
      refine k_kill 5 rfl ?_
      refine k_kill 6 rfl ?_
      cases h
      exact kk
  · replace h := ite_f c4 h
    cases h
set_option maxHeartbeats 4000000 in
theorem wLaw_c31 {p : Program} {l : Launch} {e : Env} {s : State} {m : MethodId} {args : Array Value} {below : List Frame} {meth : Method} {c : Code} {Q : State → Prop} {A : Nat → Prop} {D : DD} {B : Nat} (hF : KF D B cL_law RL A 7 601024 7293034 p l e room_1 s m args below meth c) (hl : l.stackTraces = false) (hNc : KNc s) (hA : ∀ q, B ≤ q → A q) {b Ls : Nat} {xs : Nat → Int32} (hS : SC b Ls xs A s) {i p1 p2 p3 p4 : Int32} (hp : PA xs Ls i p1 p2 p3 p4) {bc bs bc' bs' : Nat} (hbc : bc' + 6 ≤ bc) (hbs : bs' + 36 ≤ bs) {σC σR : St} {v : Int64} {z : LL} (h : fLaw_c31 σC σR v p1 p2 p3 p4 = some z)
    (kk : KJ (RepL D B) A 7 601024 7293034 Q p l e room_1 s m args below meth c bc' bs' 2437 [some (.ref b), some (.ref (B + 0)), some (.ref (B + 121 + 0)), some (.ref (B + 164)), some (.int i), none, none] [] z) : KJ (RepL D B) A 7 601024 7293034 Q p l e room_1 s m args below meth c bc bs 2040 [some (.ref b), some (.ref (B + 0)), some (.ref (B + 121 + 0)), some (.ref (B + 164)), some (.int i), none, none] [] (σC, σR, v) := by
  unfold fLaw_c31 at h
  refine k_aload_n hF dL_law_2040 rfl ?_
  obtain ⟨z1, hz1, h⟩ := bind_some h
  refine kl_C hF hA (as := []) (ct_X10_inferred (Nat.le_refl _) hz1) mv_L_240 shC_0 rfl rfl rfl ⟨Nat.le_of_ble_eq_true rfl, Nat.le_of_ble_eq_true rfl⟩ (Nat.le_of_ble_eq_true rfl) dL_law_2041 ?_
  refine k_st (st2 := [.int z1]) rfl ?_
  refine k_aload_n hF dL_law_2044 rfl ?_
  obtain ⟨z2, hz2, h⟩ := bind_some h
  refine kl_M hF hA (as := []) (ct_X11_inferred (Nat.le_add_right _ _) hz2) mv_L_243 shR_0 rfl rfl rfl ⟨Nat.le_of_ble_eq_true rfl, Nat.le_of_ble_eq_true rfl⟩ (Nat.le_of_ble_eq_true rfl) dL_law_2045 ?_
  refine k_st (st2 := [.int z2.1, .int z1]) rfl ?_
  by_cases c3 : z1 = z2.1
  · replace h := ite_t c3 h
    refine k_icmp_eq hF (tgt := 2437) dL_law_2048 (by decide) (fun _ => ?_) (fun c => absurd c3 c)
    refine k_bud (bc' := bc') (bs' := bs') (by omega) (by omega) ?_
    cases h
    exact kk
  · replace h := ite_f c3 h
    cases h
set_option maxHeartbeats 4000000 in
theorem wLaw_c32 {p : Program} {l : Launch} {e : Env} {s : State} {m : MethodId} {args : Array Value} {below : List Frame} {meth : Method} {c : Code} {Q : State → Prop} {A : Nat → Prop} {D : DD} {B : Nat} (hF : KF D B cL_law RL A 7 601024 7293034 p l e room_1 s m args below meth c) (hl : l.stackTraces = false) (hNc : KNc s) (hA : ∀ q, B ≤ q → A q) {b Ls : Nat} {xs : Nat → Int32} (hS : SC b Ls xs A s) {i p1 p2 p3 p4 : Int32} (hp : PA xs Ls i p1 p2 p3 p4) {bc bs bc' bs' : Nat} (hbc : bc' + 6 ≤ bc) (hbs : bs' + 36 ≤ bs) {σC σR : St} {v : Int64} {z : LL} (h : fLaw_c32 σC σR v p1 p2 p3 p4 = some z)
    (kk : KJ (RepL D B) A 7 601024 7293034 Q p l e room_1 s m args below meth c bc' bs' 2437 [some (.ref b), some (.ref (B + 0)), some (.ref (B + 121 + 0)), some (.ref (B + 164)), some (.int i), none, none] [] z) : KJ (RepL D B) A 7 601024 7293034 Q p l e room_1 s m args below meth c bc bs 2053 [some (.ref b), some (.ref (B + 0)), some (.ref (B + 121 + 0)), some (.ref (B + 164)), some (.int i), none, none] [] (σC, σR, v) := by
  unfold fLaw_c32 at h
  refine k_aload_n hF dL_law_2053 rfl ?_
  refine k_aload_n hF dL_law_2054 rfl ?_
  refine k_iload hF dL_law_2055 rfl ?_
  refine k_iconst hF dL_law_2057 ci_1 ?_
  refine k_iadd hF dL_law_2058 ?_
  refine kl_sld hF hS hp.1.1 hp.1.2 dL_law_2059 ?_
  refine k_aload_n hF dL_law_2060 rfl ?_
  refine k_iload hF dL_law_2061 rfl ?_
  refine k_iconst hF dL_law_2063 ci_2 ?_
  refine k_iadd hF dL_law_2064 ?_
  refine kl_sld hF hS hp.2.1.1 hp.2.1.2 dL_law_2065 ?_
  refine k_aload_n hF dL_law_2066 rfl ?_
  refine k_iload hF dL_law_2067 rfl ?_
  refine k_iconst hF dL_law_2069 ci_3 ?_
  refine k_iadd hF dL_law_2070 ?_
  refine kl_sld hF hS hp.2.2.1.1 hp.2.2.1.2 dL_law_2071 ?_
  refine k_aload_n hF dL_law_2072 rfl ?_
  obtain ⟨z1, hz1, h⟩ := bind_some h
  refine kl_H hF hNc hA bc' bs' (as := [.ref (B + 0), .int p1, .int p2, .int p3, .ref (B + 164)]) (ct_L_reasons hl (Nat.le_refl _) (Nat.add_le_add_left (Nat.le_of_ble_eq_true rfl) _) hz1) mh_L_244 rfl rfl ⟨Nat.le_of_ble_eq_true rfl, Nat.le_of_ble_eq_true rfl⟩ (Nat.le_of_ble_eq_true rfl) dL_law_2073 (by omega) (by omega) ?_
  refine k_st (st2 := [.int z1.1]) rfl ?_
  refine k_istore hF (L' := [some (.ref b), some (.ref (B + 0)), some (.ref (B + 121 + 0)), some (.ref (B + 164)), some (.int i), some (.int z1.1), none]) dL_law_2076 (by decide) rfl ?_
  refine k_aload_n hF dL_law_2078 rfl ?_
  refine k_aload_n hF dL_law_2079 rfl ?_
  refine k_iload hF dL_law_2080 rfl ?_
  refine k_iconst hF dL_law_2082 ci_1 ?_
  refine k_iadd hF dL_law_2083 ?_
  refine kl_sld hF hS hp.1.1 hp.1.2 dL_law_2084 ?_
  refine k_aload_n hF dL_law_2085 rfl ?_
  refine k_iload hF dL_law_2086 rfl ?_
  refine k_iconst hF dL_law_2088 ci_2 ?_
  refine k_iadd hF dL_law_2089 ?_
  refine kl_sld hF hS hp.2.1.1 hp.2.1.2 dL_law_2090 ?_
  refine k_aload_n hF dL_law_2091 rfl ?_
  refine k_iload hF dL_law_2092 rfl ?_
  refine k_iconst hF dL_law_2094 ci_3 ?_
  refine k_iadd hF dL_law_2095 ?_
  refine kl_sld hF hS hp.2.2.1.1 hp.2.2.1.2 dL_law_2096 ?_
  obtain ⟨z2, hz2, h⟩ := bind_some h
  refine kl_M hF hA (as := [.int p1, .int p2, .int p3]) (ct_X11_reasons (Nat.le_add_right _ _) hz2) mv_L_246 shR_0 rfl rfl rfl ⟨Nat.le_of_ble_eq_true rfl, Nat.le_of_ble_eq_true rfl⟩ (Nat.le_of_ble_eq_true rfl) dL_law_2097 ?_
  refine k_st (st2 := [.int z2.1]) rfl ?_
  refine k_istore hF (L' := [some (.ref b), some (.ref (B + 0)), some (.ref (B + 121 + 0)), some (.ref (B + 164)), some (.int i), some (.int z1.1), some (.int z2.1)]) dL_law_2100 (by decide) rfl ?_
  refine k_aload_n hF dL_law_2102 rfl ?_
  obtain ⟨z3, hz3, h⟩ := bind_some h
  refine kl_M hF hA (as := []) (ct_X11_thrown (Nat.le_add_right _ _) hz3) mv_L_137 shR_0 rfl rfl rfl ⟨Nat.le_of_ble_eq_true rfl, Nat.le_of_ble_eq_true rfl⟩ (Nat.le_of_ble_eq_true rfl) dL_law_2103 ?_
  refine k_st (st2 := [.int z3]) rfl ?_
  refine k_iload hF dL_law_2106 rfl ?_
  by_cases c4 : z3 = z1.1
  · replace h := ite_t c4 h
    refine k_icmp_eq hF (tgt := 2113) dL_law_2108 (by decide) (fun _ => ?_) (fun c => absurd c4 c)
    refine k_iload hF dL_law_2113 rfl ?_
    by_cases c5 : z1.1 = 0
    · replace h := ite_t c5 h
      refine k_if_ne hF (tgt := 2130) dL_law_2115 (by decide) (fun c => absurd c5 c) (fun _ => ?_)
      refine k_aload_n hF dL_law_2118 rfl ?_
      refine k_iconst hF dL_law_2119 ci_0 ?_
      refine kl_lald hF dL_law_2120 ?_
      refine k_iload hF dL_law_2121 rfl ?_
      refine k_i2l hF dL_law_2123 ?_
      refine k_lcmp hF dL_law_2124 ?_
      by_cases c6 : (lg_cmp z1.2.2 z2.1.toInt64) = 0
      · replace h := ite_t c6 h
        refine k_if_eq hF (tgt := 2130) dL_law_2125 (by decide) (fun _ => ?_) (fun c => absurd c6 c)
        refine k_goto hF (tgt := 2437) dL_law_2130 (by decide) ?_
        refine k_kill 5 rfl ?_
        refine k_kill 6 rfl ?_
        cases h
        exact kk
      · replace h := ite_f c6 h
        cases h
    · replace h := ite_f c5 h
      refine k_if_ne hF (tgt := 2130) dL_law_2115 (by decide) (fun _ => ?_) (fun c => absurd c c5)
      refine k_goto hF (tgt := 2437) dL_law_2130 (by decide) ?_
      refine k_kill 5 rfl ?_
      refine k_kill 6 rfl ?_
      cases h
      exact kk
  · replace h := ite_f c4 h
    cases h
set_option maxHeartbeats 4000000 in
theorem wLaw_c33 {p : Program} {l : Launch} {e : Env} {s : State} {m : MethodId} {args : Array Value} {below : List Frame} {meth : Method} {c : Code} {Q : State → Prop} {A : Nat → Prop} {D : DD} {B : Nat} (hF : KF D B cL_law RL A 7 601024 7293034 p l e room_1 s m args below meth c) (hl : l.stackTraces = false) (hNc : KNc s) (hA : ∀ q, B ≤ q → A q) {b Ls : Nat} {xs : Nat → Int32} (hS : SC b Ls xs A s) {i p1 p2 p3 p4 : Int32} (hp : PA xs Ls i p1 p2 p3 p4) {bc bs bc' bs' : Nat} (hbc : bc' + 6 ≤ bc) (hbs : bs' + 36 ≤ bs) {σC σR : St} {v : Int64} {z : LL} (h : fLaw_c33 σC σR v p1 p2 p3 p4 = some z)
    (kk : KJ (RepL D B) A 7 601024 7293034 Q p l e room_1 s m args below meth c bc' bs' 2437 [some (.ref b), some (.ref (B + 0)), some (.ref (B + 121 + 0)), some (.ref (B + 164)), some (.int i), none, none] [] z) : KJ (RepL D B) A 7 601024 7293034 Q p l e room_1 s m args below meth c bc bs 2133 [some (.ref b), some (.ref (B + 0)), some (.ref (B + 121 + 0)), some (.ref (B + 164)), some (.int i), none, none] [] (σC, σR, v) := by
  unfold fLaw_c33 at h
  refine k_aload_n hF dL_law_2133 rfl ?_
  refine k_aload_n hF dL_law_2134 rfl ?_
  refine k_iload hF dL_law_2135 rfl ?_
  refine k_iconst hF dL_law_2137 ci_1 ?_
  refine k_iadd hF dL_law_2138 ?_
  refine kl_sld hF hS hp.1.1 hp.1.2 dL_law_2139 ?_
  refine k_aload_n hF dL_law_2140 rfl ?_
  refine k_iload hF dL_law_2141 rfl ?_
  refine k_iconst hF dL_law_2143 ci_2 ?_
  refine k_iadd hF dL_law_2144 ?_
  refine kl_sld hF hS hp.2.1.1 hp.2.1.2 dL_law_2145 ?_
  refine k_aload_n hF dL_law_2146 rfl ?_
  obtain ⟨z1, hz1, h⟩ := bind_some h
  refine kl_H hF hNc hA bc' bs' (as := [.ref (B + 0), .int p1, .int p2, .ref (B + 164)]) (ct_L_walk hl (Nat.le_refl _) (Nat.add_le_add_left (Nat.le_of_ble_eq_true rfl) _) hz1) mh_L_247 rfl rfl ⟨Nat.le_of_ble_eq_true rfl, Nat.le_of_ble_eq_true rfl⟩ (Nat.le_of_ble_eq_true rfl) dL_law_2147 (by omega) (by omega) ?_
  refine k_st (st2 := [.int z1.1]) rfl ?_
  refine k_istore hF (L' := [some (.ref b), some (.ref (B + 0)), some (.ref (B + 121 + 0)), some (.ref (B + 164)), some (.int i), some (.int z1.1), none]) dL_law_2150 (by decide) rfl ?_
  refine k_aload_n hF dL_law_2152 rfl ?_
  refine k_aload_n hF dL_law_2153 rfl ?_
  refine k_iload hF dL_law_2154 rfl ?_
  refine k_iconst hF dL_law_2156 ci_1 ?_
  refine k_iadd hF dL_law_2157 ?_
  refine kl_sld hF hS hp.1.1 hp.1.2 dL_law_2158 ?_
  refine k_aload_n hF dL_law_2159 rfl ?_
  refine k_iload hF dL_law_2160 rfl ?_
  refine k_iconst hF dL_law_2162 ci_2 ?_
  refine k_iadd hF dL_law_2163 ?_
  refine kl_sld hF hS hp.2.1.1 hp.2.1.2 dL_law_2164 ?_
  obtain ⟨z2, hz2, h⟩ := bind_some h
  refine kl_M hF hA (as := [.int p1, .int p2]) (ct_X11_walk (Nat.le_add_right _ _) hz2) mv_L_249 shR_0 rfl rfl rfl ⟨Nat.le_of_ble_eq_true rfl, Nat.le_of_ble_eq_true rfl⟩ (Nat.le_of_ble_eq_true rfl) dL_law_2165 ?_
  refine k_st (st2 := [.int z2.1]) rfl ?_
  refine k_istore hF (L' := [some (.ref b), some (.ref (B + 0)), some (.ref (B + 121 + 0)), some (.ref (B + 164)), some (.int i), some (.int z1.1), some (.int z2.1)]) dL_law_2168 (by decide) rfl ?_
  refine k_aload_n hF dL_law_2170 rfl ?_
  obtain ⟨z3, hz3, h⟩ := bind_some h
  refine kl_M hF hA (as := []) (ct_X11_thrown (Nat.le_add_right _ _) hz3) mv_L_137 shR_0 rfl rfl rfl ⟨Nat.le_of_ble_eq_true rfl, Nat.le_of_ble_eq_true rfl⟩ (Nat.le_of_ble_eq_true rfl) dL_law_2171 ?_
  refine k_st (st2 := [.int z3]) rfl ?_
  refine k_iload hF dL_law_2174 rfl ?_
  by_cases c4 : z3 = z1.1
  · replace h := ite_t c4 h
    refine k_icmp_eq hF (tgt := 2181) dL_law_2176 (by decide) (fun _ => ?_) (fun c => absurd c4 c)
    refine k_iload hF dL_law_2181 rfl ?_
    by_cases c5 : z1.1 = 0
    · replace h := ite_t c5 h
      refine k_if_ne hF (tgt := 2198) dL_law_2183 (by decide) (fun c => absurd c5 c) (fun _ => ?_)
      refine k_aload_n hF dL_law_2186 rfl ?_
      refine k_iconst hF dL_law_2187 ci_0 ?_
      refine kl_lald hF dL_law_2188 ?_
      refine k_iload hF dL_law_2189 rfl ?_
      refine k_i2l hF dL_law_2191 ?_
      refine k_lcmp hF dL_law_2192 ?_
      by_cases c6 : (lg_cmp z1.2.2 z2.1.toInt64) = 0
      · replace h := ite_t c6 h
        refine k_if_eq hF (tgt := 2198) dL_law_2193 (by decide) (fun _ => ?_) (fun c => absurd c6 c)
        refine k_goto hF (tgt := 2437) dL_law_2198 (by decide) ?_
        refine k_kill 5 rfl ?_
        refine k_kill 6 rfl ?_
        cases h
        exact kk
      · replace h := ite_f c6 h
        cases h
    · replace h := ite_f c5 h
      refine k_if_ne hF (tgt := 2198) dL_law_2183 (by decide) (fun _ => ?_) (fun c => absurd c c5)
      refine k_goto hF (tgt := 2437) dL_law_2198 (by decide) ?_
      refine k_kill 5 rfl ?_
      refine k_kill 6 rfl ?_
      cases h
      exact kk
  · replace h := ite_f c4 h
    cases h
set_option maxHeartbeats 4000000 in
theorem wLaw_c34 {p : Program} {l : Launch} {e : Env} {s : State} {m : MethodId} {args : Array Value} {below : List Frame} {meth : Method} {c : Code} {Q : State → Prop} {A : Nat → Prop} {D : DD} {B : Nat} (hF : KF D B cL_law RL A 7 601024 7293034 p l e room_1 s m args below meth c) (hl : l.stackTraces = false) (hNc : KNc s) (hA : ∀ q, B ≤ q → A q) {b Ls : Nat} {xs : Nat → Int32} (hS : SC b Ls xs A s) {i p1 p2 p3 p4 : Int32} (hp : PA xs Ls i p1 p2 p3 p4) {bc bs bc' bs' : Nat} (hbc : bc' + 6 ≤ bc) (hbs : bs' + 36 ≤ bs) {σC σR : St} {v : Int64} {z : LL} (h : fLaw_c34 σC σR v p1 p2 p3 p4 = some z)
    (kk : KJ (RepL D B) A 7 601024 7293034 Q p l e room_1 s m args below meth c bc' bs' 2437 [some (.ref b), some (.ref (B + 0)), some (.ref (B + 121 + 0)), some (.ref (B + 164)), some (.int i), none, none] [] z) : KJ (RepL D B) A 7 601024 7293034 Q p l e room_1 s m args below meth c bc bs 2201 [some (.ref b), some (.ref (B + 0)), some (.ref (B + 121 + 0)), some (.ref (B + 164)), some (.int i), none, none] [] (σC, σR, v) := by
  unfold fLaw_c34 at h
  refine k_aload_n hF dL_law_2201 rfl ?_
  refine k_aload_n hF dL_law_2202 rfl ?_
  refine k_iload hF dL_law_2203 rfl ?_
  refine k_iconst hF dL_law_2205 ci_1 ?_
  refine k_iadd hF dL_law_2206 ?_
  refine kl_sld hF hS hp.1.1 hp.1.2 dL_law_2207 ?_
  refine k_aload_n hF dL_law_2208 rfl ?_
  refine k_iload hF dL_law_2209 rfl ?_
  refine k_iconst hF dL_law_2211 ci_2 ?_
  refine k_iadd hF dL_law_2212 ?_
  refine kl_sld hF hS hp.2.1.1 hp.2.1.2 dL_law_2213 ?_
  refine k_aload_n hF dL_law_2214 rfl ?_
  obtain ⟨z1, hz1, h⟩ := bind_some h
  refine kl_H hF hNc hA bc' bs' (as := [.ref (B + 0), .int p1, .int p2, .ref (B + 164)]) (ct_L_crossings hl (Nat.le_refl _) (Nat.add_le_add_left (Nat.le_of_ble_eq_true rfl) _) hz1) mh_L_250 rfl rfl ⟨Nat.le_of_ble_eq_true rfl, Nat.le_of_ble_eq_true rfl⟩ (Nat.le_of_ble_eq_true rfl) dL_law_2215 (by omega) (by omega) ?_
  refine k_st (st2 := [.int z1.1]) rfl ?_
  refine k_istore hF (L' := [some (.ref b), some (.ref (B + 0)), some (.ref (B + 121 + 0)), some (.ref (B + 164)), some (.int i), some (.int z1.1), none]) dL_law_2218 (by decide) rfl ?_
  refine k_aload_n hF dL_law_2220 rfl ?_
  refine k_aload_n hF dL_law_2221 rfl ?_
  refine k_iload hF dL_law_2222 rfl ?_
  refine k_iconst hF dL_law_2224 ci_1 ?_
  refine k_iadd hF dL_law_2225 ?_
  refine kl_sld hF hS hp.1.1 hp.1.2 dL_law_2226 ?_
  refine k_aload_n hF dL_law_2227 rfl ?_
  refine k_iload hF dL_law_2228 rfl ?_
  refine k_iconst hF dL_law_2230 ci_2 ?_
  refine k_iadd hF dL_law_2231 ?_
  refine kl_sld hF hS hp.2.1.1 hp.2.1.2 dL_law_2232 ?_
  obtain ⟨z2, hz2, h⟩ := bind_some h
  refine kl_M hF hA (as := [.int p1, .int p2]) (ct_X11_crossings (Nat.le_add_right _ _) hz2) mv_L_252 shR_0 rfl rfl rfl ⟨Nat.le_of_ble_eq_true rfl, Nat.le_of_ble_eq_true rfl⟩ (Nat.le_of_ble_eq_true rfl) dL_law_2233 ?_
  refine k_st (st2 := [.int z2.1]) rfl ?_
  refine k_istore hF (L' := [some (.ref b), some (.ref (B + 0)), some (.ref (B + 121 + 0)), some (.ref (B + 164)), some (.int i), some (.int z1.1), some (.int z2.1)]) dL_law_2236 (by decide) rfl ?_
  refine k_aload_n hF dL_law_2238 rfl ?_
  obtain ⟨z3, hz3, h⟩ := bind_some h
  refine kl_M hF hA (as := []) (ct_X11_thrown (Nat.le_add_right _ _) hz3) mv_L_137 shR_0 rfl rfl rfl ⟨Nat.le_of_ble_eq_true rfl, Nat.le_of_ble_eq_true rfl⟩ (Nat.le_of_ble_eq_true rfl) dL_law_2239 ?_
  refine k_st (st2 := [.int z3]) rfl ?_
  refine k_iload hF dL_law_2242 rfl ?_
  by_cases c4 : z3 = z1.1
  · replace h := ite_t c4 h
    refine k_icmp_eq hF (tgt := 2249) dL_law_2244 (by decide) (fun _ => ?_) (fun c => absurd c4 c)
    refine k_iload hF dL_law_2249 rfl ?_
    by_cases c5 : z1.1 = 0
    · replace h := ite_t c5 h
      refine k_if_ne hF (tgt := 2266) dL_law_2251 (by decide) (fun c => absurd c5 c) (fun _ => ?_)
      refine k_aload_n hF dL_law_2254 rfl ?_
      refine k_iconst hF dL_law_2255 ci_0 ?_
      refine kl_lald hF dL_law_2256 ?_
      refine k_iload hF dL_law_2257 rfl ?_
      refine k_i2l hF dL_law_2259 ?_
      refine k_lcmp hF dL_law_2260 ?_
      by_cases c6 : (lg_cmp z1.2.2 z2.1.toInt64) = 0
      · replace h := ite_t c6 h
        refine k_if_eq hF (tgt := 2266) dL_law_2261 (by decide) (fun _ => ?_) (fun c => absurd c6 c)
        refine k_goto hF (tgt := 2437) dL_law_2266 (by decide) ?_
        refine k_kill 5 rfl ?_
        refine k_kill 6 rfl ?_
        cases h
        exact kk
      · replace h := ite_f c6 h
        cases h
    · replace h := ite_f c5 h
      refine k_if_ne hF (tgt := 2266) dL_law_2251 (by decide) (fun _ => ?_) (fun c => absurd c c5)
      refine k_goto hF (tgt := 2437) dL_law_2266 (by decide) ?_
      refine k_kill 5 rfl ?_
      refine k_kill 6 rfl ?_
      cases h
      exact kk
  · replace h := ite_f c4 h
    cases h
set_option maxHeartbeats 4000000 in
theorem wLaw_c35 {p : Program} {l : Launch} {e : Env} {s : State} {m : MethodId} {args : Array Value} {below : List Frame} {meth : Method} {c : Code} {Q : State → Prop} {A : Nat → Prop} {D : DD} {B : Nat} (hF : KF D B cL_law RL A 7 601024 7293034 p l e room_1 s m args below meth c) (hl : l.stackTraces = false) (hNc : KNc s) (hA : ∀ q, B ≤ q → A q) {b Ls : Nat} {xs : Nat → Int32} (hS : SC b Ls xs A s) {i p1 p2 p3 p4 : Int32} (hp : PA xs Ls i p1 p2 p3 p4) {bc bs bc' bs' : Nat} (hbc : bc' + 6 ≤ bc) (hbs : bs' + 36 ≤ bs) {σC σR : St} {v : Int64} {z : LL} (h : fLaw_c35 σC σR v p1 p2 p3 p4 = some z)
    (kk : KJ (RepL D B) A 7 601024 7293034 Q p l e room_1 s m args below meth c bc' bs' 2437 [some (.ref b), some (.ref (B + 0)), some (.ref (B + 121 + 0)), some (.ref (B + 164)), some (.int i), none, none] [] z) : KJ (RepL D B) A 7 601024 7293034 Q p l e room_1 s m args below meth c bc bs 2269 [some (.ref b), some (.ref (B + 0)), some (.ref (B + 121 + 0)), some (.ref (B + 164)), some (.int i), none, none] [] (σC, σR, v) := by
  unfold fLaw_c35 at h
  refine k_aload_n hF dL_law_2269 rfl ?_
  refine k_aload_n hF dL_law_2270 rfl ?_
  refine k_iload hF dL_law_2271 rfl ?_
  refine k_iconst hF dL_law_2273 ci_1 ?_
  refine k_iadd hF dL_law_2274 ?_
  refine kl_sld hF hS hp.1.1 hp.1.2 dL_law_2275 ?_
  refine k_aload_n hF dL_law_2276 rfl ?_
  obtain ⟨z1, hz1, h⟩ := bind_some h
  refine kl_H hF hNc hA bc' bs' (as := [.ref (B + 0), .int p1, .ref (B + 164)]) (ct_L_round hl (Nat.le_refl _) (Nat.add_le_add_left (Nat.le_of_ble_eq_true rfl) _) hz1) mh_L_253 rfl rfl ⟨Nat.le_of_ble_eq_true rfl, Nat.le_of_ble_eq_true rfl⟩ (Nat.le_of_ble_eq_true rfl) dL_law_2277 (by omega) (by omega) ?_
  refine k_st (st2 := [.int z1.1]) rfl ?_
  refine k_istore hF (L' := [some (.ref b), some (.ref (B + 0)), some (.ref (B + 121 + 0)), some (.ref (B + 164)), some (.int i), some (.int z1.1), none]) dL_law_2280 (by decide) rfl ?_
  refine k_aload_n hF dL_law_2282 rfl ?_
  refine k_aload_n hF dL_law_2283 rfl ?_
  refine k_iload hF dL_law_2284 rfl ?_
  refine k_iconst hF dL_law_2286 ci_1 ?_
  refine k_iadd hF dL_law_2287 ?_
  refine kl_sld hF hS hp.1.1 hp.1.2 dL_law_2288 ?_
  obtain ⟨z2, hz2, h⟩ := bind_some h
  refine kl_M hF hA (as := [.int p1]) (ct_X11_round (Nat.le_add_right _ _) hz2) mv_L_255 shR_0 rfl rfl rfl ⟨Nat.le_of_ble_eq_true rfl, Nat.le_of_ble_eq_true rfl⟩ (Nat.le_of_ble_eq_true rfl) dL_law_2289 ?_
  refine k_st (st2 := [.int z2.1]) rfl ?_
  refine k_istore hF (L' := [some (.ref b), some (.ref (B + 0)), some (.ref (B + 121 + 0)), some (.ref (B + 164)), some (.int i), some (.int z1.1), some (.int z2.1)]) dL_law_2292 (by decide) rfl ?_
  refine k_aload_n hF dL_law_2294 rfl ?_
  obtain ⟨z3, hz3, h⟩ := bind_some h
  refine kl_M hF hA (as := []) (ct_X11_thrown (Nat.le_add_right _ _) hz3) mv_L_137 shR_0 rfl rfl rfl ⟨Nat.le_of_ble_eq_true rfl, Nat.le_of_ble_eq_true rfl⟩ (Nat.le_of_ble_eq_true rfl) dL_law_2295 ?_
  refine k_st (st2 := [.int z3]) rfl ?_
  refine k_iload hF dL_law_2298 rfl ?_
  by_cases c4 : z3 = z1.1
  · replace h := ite_t c4 h
    refine k_icmp_eq hF (tgt := 2305) dL_law_2300 (by decide) (fun _ => ?_) (fun c => absurd c4 c)
    refine k_iload hF dL_law_2305 rfl ?_
    by_cases c5 : z1.1 = 0
    · replace h := ite_t c5 h
      refine k_if_ne hF (tgt := 2322) dL_law_2307 (by decide) (fun c => absurd c5 c) (fun _ => ?_)
      refine k_aload_n hF dL_law_2310 rfl ?_
      refine k_iconst hF dL_law_2311 ci_0 ?_
      refine kl_lald hF dL_law_2312 ?_
      refine k_iload hF dL_law_2313 rfl ?_
      refine k_i2l hF dL_law_2315 ?_
      refine k_lcmp hF dL_law_2316 ?_
      by_cases c6 : (lg_cmp z1.2.2 z2.1.toInt64) = 0
      · replace h := ite_t c6 h
        refine k_if_eq hF (tgt := 2322) dL_law_2317 (by decide) (fun _ => ?_) (fun c => absurd c6 c)
        refine k_goto hF (tgt := 2437) dL_law_2322 (by decide) ?_
        refine k_kill 5 rfl ?_
        refine k_kill 6 rfl ?_
        cases h
        exact kk
      · replace h := ite_f c6 h
        cases h
    · replace h := ite_f c5 h
      refine k_if_ne hF (tgt := 2322) dL_law_2307 (by decide) (fun _ => ?_) (fun c => absurd c c5)
      refine k_goto hF (tgt := 2437) dL_law_2322 (by decide) ?_
      refine k_kill 5 rfl ?_
      refine k_kill 6 rfl ?_
      cases h
      exact kk
  · replace h := ite_f c4 h
    cases h
set_option maxHeartbeats 4000000 in
theorem wLaw_c36 {p : Program} {l : Launch} {e : Env} {s : State} {m : MethodId} {args : Array Value} {below : List Frame} {meth : Method} {c : Code} {Q : State → Prop} {A : Nat → Prop} {D : DD} {B : Nat} (hF : KF D B cL_law RL A 7 601024 7293034 p l e room_1 s m args below meth c) (hl : l.stackTraces = false) (hNc : KNc s) (hA : ∀ q, B ≤ q → A q) {b Ls : Nat} {xs : Nat → Int32} (hS : SC b Ls xs A s) {i p1 p2 p3 p4 : Int32} (hp : PA xs Ls i p1 p2 p3 p4) {bc bs bc' bs' : Nat} (hbc : bc' + 6 ≤ bc) (hbs : bs' + 36 ≤ bs) {σC σR : St} {v : Int64} {z : LL} (h : fLaw_c36 σC σR v p1 p2 p3 p4 = some z)
    (kk : KJ (RepL D B) A 7 601024 7293034 Q p l e room_1 s m args below meth c bc' bs' 2437 [some (.ref b), some (.ref (B + 0)), some (.ref (B + 121 + 0)), some (.ref (B + 164)), some (.int i), none, none] [] z) : KJ (RepL D B) A 7 601024 7293034 Q p l e room_1 s m args below meth c bc bs 2325 [some (.ref b), some (.ref (B + 0)), some (.ref (B + 121 + 0)), some (.ref (B + 164)), some (.int i), none, none] [] (σC, σR, v) := by
  unfold fLaw_c36 at h
  refine k_aload_n hF dL_law_2325 rfl ?_
  refine k_aload_n hF dL_law_2326 rfl ?_
  refine k_iload hF dL_law_2327 rfl ?_
  refine k_iconst hF dL_law_2329 ci_1 ?_
  refine k_iadd hF dL_law_2330 ?_
  refine kl_sld hF hS hp.1.1 hp.1.2 dL_law_2331 ?_
  refine k_aload_n hF dL_law_2332 rfl ?_
  obtain ⟨z1, hz1, h⟩ := bind_some h
  refine kl_H hF hNc hA bc' bs' (as := [.ref (B + 0), .int p1, .ref (B + 164)]) (ct_L_mark hl (Nat.le_refl _) (Nat.add_le_add_left (Nat.le_of_ble_eq_true rfl) _) hz1) mh_L_256 rfl rfl ⟨Nat.le_of_ble_eq_true rfl, Nat.le_of_ble_eq_true rfl⟩ (Nat.le_of_ble_eq_true rfl) dL_law_2333 (by omega) (by omega) ?_
  refine k_st (st2 := [.int z1.1]) rfl ?_
  refine k_istore hF (L' := [some (.ref b), some (.ref (B + 0)), some (.ref (B + 121 + 0)), some (.ref (B + 164)), some (.int i), some (.int z1.1), none]) dL_law_2336 (by decide) rfl ?_
  refine k_aload_n hF dL_law_2338 rfl ?_
  refine k_aload_n hF dL_law_2339 rfl ?_
  refine k_iload hF dL_law_2340 rfl ?_
  refine k_iconst hF dL_law_2342 ci_1 ?_
  refine k_iadd hF dL_law_2343 ?_
  refine kl_sld hF hS hp.1.1 hp.1.2 dL_law_2344 ?_
  obtain ⟨z2, hz2, h⟩ := bind_some h
  refine kl_M hF hA (as := [.int p1]) (ct_X11_mark (Nat.le_add_right _ _) hz2) mv_L_258 shR_0 rfl rfl rfl ⟨Nat.le_of_ble_eq_true rfl, Nat.le_of_ble_eq_true rfl⟩ (Nat.le_of_ble_eq_true rfl) dL_law_2345 ?_
  refine k_st (st2 := [.int z2.1]) rfl ?_
  refine k_istore hF (L' := [some (.ref b), some (.ref (B + 0)), some (.ref (B + 121 + 0)), some (.ref (B + 164)), some (.int i), some (.int z1.1), some (.int z2.1)]) dL_law_2348 (by decide) rfl ?_
  refine k_aload_n hF dL_law_2350 rfl ?_
  obtain ⟨z3, hz3, h⟩ := bind_some h
  refine kl_M hF hA (as := []) (ct_X11_thrown (Nat.le_add_right _ _) hz3) mv_L_137 shR_0 rfl rfl rfl ⟨Nat.le_of_ble_eq_true rfl, Nat.le_of_ble_eq_true rfl⟩ (Nat.le_of_ble_eq_true rfl) dL_law_2351 ?_
  refine k_st (st2 := [.int z3]) rfl ?_
  refine k_iload hF dL_law_2354 rfl ?_
  by_cases c4 : z3 = z1.1
  · replace h := ite_t c4 h
    refine k_icmp_eq hF (tgt := 2361) dL_law_2356 (by decide) (fun _ => ?_) (fun c => absurd c4 c)
    refine k_iload hF dL_law_2361 rfl ?_
    by_cases c5 : z1.1 = 0
    · replace h := ite_t c5 h
      refine k_if_ne hF (tgt := 2378) dL_law_2363 (by decide) (fun c => absurd c5 c) (fun _ => ?_)
      refine k_aload_n hF dL_law_2366 rfl ?_
      refine k_iconst hF dL_law_2367 ci_0 ?_
      refine kl_lald hF dL_law_2368 ?_
      refine k_iload hF dL_law_2369 rfl ?_
      refine k_i2l hF dL_law_2371 ?_
      refine k_lcmp hF dL_law_2372 ?_
      by_cases c6 : (lg_cmp z1.2.2 z2.1.toInt64) = 0
      · replace h := ite_t c6 h
        refine k_if_eq hF (tgt := 2378) dL_law_2373 (by decide) (fun _ => ?_) (fun c => absurd c6 c)
        refine k_goto hF (tgt := 2437) dL_law_2378 (by decide) ?_
        refine k_kill 5 rfl ?_
        refine k_kill 6 rfl ?_
        cases h
        exact kk
      · replace h := ite_f c6 h
        cases h
    · replace h := ite_f c5 h
      refine k_if_ne hF (tgt := 2378) dL_law_2363 (by decide) (fun _ => ?_) (fun c => absurd c c5)
      refine k_goto hF (tgt := 2437) dL_law_2378 (by decide) ?_
      refine k_kill 5 rfl ?_
      refine k_kill 6 rfl ?_
      cases h
      exact kk
  · replace h := ite_f c4 h
    cases h
set_option maxHeartbeats 4000000 in
theorem wLaw_c37 {p : Program} {l : Launch} {e : Env} {s : State} {m : MethodId} {args : Array Value} {below : List Frame} {meth : Method} {c : Code} {Q : State → Prop} {A : Nat → Prop} {D : DD} {B : Nat} (hF : KF D B cL_law RL A 7 601024 7293034 p l e room_1 s m args below meth c) (hl : l.stackTraces = false) (hNc : KNc s) (hA : ∀ q, B ≤ q → A q) {b Ls : Nat} {xs : Nat → Int32} (hS : SC b Ls xs A s) {i p1 p2 p3 p4 : Int32} (hp : PA xs Ls i p1 p2 p3 p4) {bc bs bc' bs' : Nat} (hbc : bc' + 6 ≤ bc) (hbs : bs' + 36 ≤ bs) {σC σR : St} {v : Int64} {z : LL} (h : fLaw_c37 σC σR v p1 p2 p3 p4 = some z)
    (kk : KJ (RepL D B) A 7 601024 7293034 Q p l e room_1 s m args below meth c bc' bs' 2437 [some (.ref b), some (.ref (B + 0)), some (.ref (B + 121 + 0)), some (.ref (B + 164)), some (.int i), none, none] [] z) : KJ (RepL D B) A 7 601024 7293034 Q p l e room_1 s m args below meth c bc bs 2381 [some (.ref b), some (.ref (B + 0)), some (.ref (B + 121 + 0)), some (.ref (B + 164)), some (.int i), none, none] [] (σC, σR, v) := by
  unfold fLaw_c37 at h
  refine k_aload_n hF dL_law_2381 rfl ?_
  refine k_aload_n hF dL_law_2382 rfl ?_
  refine k_iload hF dL_law_2383 rfl ?_
  refine k_iconst hF dL_law_2385 ci_1 ?_
  refine k_iadd hF dL_law_2386 ?_
  refine kl_sld hF hS hp.1.1 hp.1.2 dL_law_2387 ?_
  refine k_aload_n hF dL_law_2388 rfl ?_
  obtain ⟨z1, hz1, h⟩ := bind_some h
  refine kl_H hF hNc hA bc' bs' (as := [.ref (B + 0), .int p1, .ref (B + 164)]) (ct_L_least hl (Nat.le_refl _) (Nat.add_le_add_left (Nat.le_of_ble_eq_true rfl) _) hz1) mh_L_259 rfl rfl ⟨Nat.le_of_ble_eq_true rfl, Nat.le_of_ble_eq_true rfl⟩ (Nat.le_of_ble_eq_true rfl) dL_law_2389 (by omega) (by omega) ?_
  refine k_st (st2 := [.int z1.1]) rfl ?_
  refine k_istore hF (L' := [some (.ref b), some (.ref (B + 0)), some (.ref (B + 121 + 0)), some (.ref (B + 164)), some (.int i), some (.int z1.1), none]) dL_law_2392 (by decide) rfl ?_
  refine k_aload_n hF dL_law_2394 rfl ?_
  refine k_aload_n hF dL_law_2395 rfl ?_
  refine k_iload hF dL_law_2396 rfl ?_
  refine k_iconst hF dL_law_2398 ci_1 ?_
  refine k_iadd hF dL_law_2399 ?_
  refine kl_sld hF hS hp.1.1 hp.1.2 dL_law_2400 ?_
  obtain ⟨z2, hz2, h⟩ := bind_some h
  refine kl_M hF hA (as := [.int p1]) (ct_X11_least (Nat.le_add_right _ _) hz2) mv_L_261 shR_0 rfl rfl rfl ⟨Nat.le_of_ble_eq_true rfl, Nat.le_of_ble_eq_true rfl⟩ (Nat.le_of_ble_eq_true rfl) dL_law_2401 ?_
  refine k_st (st2 := [.int z2.1]) rfl ?_
  refine k_istore hF (L' := [some (.ref b), some (.ref (B + 0)), some (.ref (B + 121 + 0)), some (.ref (B + 164)), some (.int i), some (.int z1.1), some (.int z2.1)]) dL_law_2404 (by decide) rfl ?_
  refine k_aload_n hF dL_law_2406 rfl ?_
  obtain ⟨z3, hz3, h⟩ := bind_some h
  refine kl_M hF hA (as := []) (ct_X11_thrown (Nat.le_add_right _ _) hz3) mv_L_137 shR_0 rfl rfl rfl ⟨Nat.le_of_ble_eq_true rfl, Nat.le_of_ble_eq_true rfl⟩ (Nat.le_of_ble_eq_true rfl) dL_law_2407 ?_
  refine k_st (st2 := [.int z3]) rfl ?_
  refine k_iload hF dL_law_2410 rfl ?_
  by_cases c4 : z3 = z1.1
  · replace h := ite_t c4 h
    refine k_icmp_eq hF (tgt := 2417) dL_law_2412 (by decide) (fun _ => ?_) (fun c => absurd c4 c)
    refine k_iload hF dL_law_2417 rfl ?_
    by_cases c5 : z1.1 = 0
    · replace h := ite_t c5 h
      refine k_if_ne hF (tgt := 2434) dL_law_2419 (by decide) (fun c => absurd c5 c) (fun _ => ?_)
      refine k_aload_n hF dL_law_2422 rfl ?_
      refine k_iconst hF dL_law_2423 ci_0 ?_
      refine kl_lald hF dL_law_2424 ?_
      refine k_iload hF dL_law_2425 rfl ?_
      refine k_i2l hF dL_law_2427 ?_
      refine k_lcmp hF dL_law_2428 ?_
      by_cases c6 : (lg_cmp z1.2.2 z2.1.toInt64) = 0
      · replace h := ite_t c6 h
        refine k_if_eq hF (tgt := 2434) dL_law_2429 (by decide) (fun _ => ?_) (fun c => absurd c6 c)
        refine k_goto hF (tgt := 2437) dL_law_2434 (by decide) ?_
        refine k_kill 5 rfl ?_
        refine k_kill 6 rfl ?_
        cases h
        exact kk
      · replace h := ite_f c6 h
        cases h
    · replace h := ite_f c5 h
      refine k_if_ne hF (tgt := 2434) dL_law_2419 (by decide) (fun _ => ?_) (fun c => absurd c c5)
      refine k_goto hF (tgt := 2437) dL_law_2434 (by decide) ?_
      refine k_kill 5 rfl ?_
      refine k_kill 6 rfl ?_
      cases h
      exact kk
  · replace h := ite_f c4 h
    cases h
set_option maxHeartbeats 8000000 in
set_option maxRecDepth 100000 in
theorem wLaw_step {p : Program} {l : Launch} {e : Env} {s : State} {m : MethodId} {args : Array Value} {below : List Frame} {meth : Method} {c : Code} {Q : State → Prop} {A : Nat → Prop} {D : DD} {B : Nat} (hF : KF D B cL_law RL A 7 601024 7293034 p l e room_1 s m args below meth c) (hl : l.stackTraces = false) (hNc : KNc s) (hA : ∀ q, B ≤ q → A q) {b Ls : Nat} {xs : Nat → Int32} (hS : SC b Ls xs A s) {i o p1 p2 p3 p4 : Int32} (hp : PA xs Ls i p1 p2 p3 p4) {bc bs bc' bs' : Nat} (hbc : bc' + 6 ≤ bc) (hbs : bs' + 36 ≤ bs) {σC σR : St} {v : Int64} {z : LL} (h : fLaw_step σC σR v o p1 p2 p3 p4 = some z)
    (kk : KJ (RepL D B) A 7 601024 7293034 Q p l e room_1 s m args below meth c bc' bs' 2437 [some (.ref b), some (.ref (B + 0)), some (.ref (B + 121 + 0)), some (.ref (B + 164)), some (.int i), none, none] [] z) : KJ (RepL D B) A 7 601024 7293034 Q p l e room_1 s m args below meth c bc bs 39 [some (.ref b), some (.ref (B + 0)), some (.ref (B + 121 + 0)), some (.ref (B + 164)), some (.int i), none, none] [.int o] (σC, σR, v) := by
  unfold fLaw_step at h
  by_cases c0 : o = 0
  · replace h := ite_t c0 h
    refine k_tabIn hF (off := 165) (tgt := 204) dL_law_39 c0 (by decide) (by decide) (by decide +kernel) (by decide) ?_
    exact wLaw_c0 hF hl hNc hA hS hp hbc hbs h kk
  · replace h := ite_f c0 h
    by_cases c1 : o = 1
    · replace h := ite_t c1 h
      refine k_tabIn hF (off := 233) (tgt := 272) dL_law_39 c1 (by decide) (by decide) (by decide +kernel) (by decide) ?_
      exact wLaw_c1 hF hl hNc hA hS hp hbc hbs h kk
    · replace h := ite_f c1 h
      by_cases c2 : o = 2
      · replace h := ite_t c2 h
        refine k_tabIn hF (off := 313) (tgt := 352) dL_law_39 c2 (by decide) (by decide) (by decide +kernel) (by decide) ?_
        exact wLaw_c2 hF hl hNc hA hS hp hbc hbs h kk
      · replace h := ite_f c2 h
        by_cases c3 : o = 3
        · replace h := ite_t c3 h
          refine k_tabIn hF (off := 381) (tgt := 420) dL_law_39 c3 (by decide) (by decide) (by decide +kernel) (by decide) ?_
          exact wLaw_c3 hF hl hNc hA hS hp hbc hbs h kk
        · replace h := ite_f c3 h
          by_cases c4 : o = 4
          · replace h := ite_t c4 h
            refine k_tabIn hF (off := 437) (tgt := 476) dL_law_39 c4 (by decide) (by decide) (by decide +kernel) (by decide) ?_
            exact wLaw_c4 hF hl hNc hA hS hp hbc hbs h kk
          · replace h := ite_f c4 h
            by_cases c5 : o = 5
            · replace h := ite_t c5 h
              refine k_tabIn hF (off := 493) (tgt := 532) dL_law_39 c5 (by decide) (by decide) (by decide +kernel) (by decide) ?_
              exact wLaw_c5 hF hl hNc hA hS hp hbc hbs h kk
            · replace h := ite_f c5 h
              by_cases c6 : o = 6
              · replace h := ite_t c6 h
                refine k_tabIn hF (off := 556) (tgt := 595) dL_law_39 c6 (by decide) (by decide) (by decide +kernel) (by decide) ?_
                exact wLaw_c6 hF hl hNc hA hS hp hbc hbs h kk
              · replace h := ite_f c6 h
                by_cases c7 : o = 7
                · replace h := ite_t c7 h
                  refine k_tabIn hF (off := 616) (tgt := 655) dL_law_39 c7 (by decide) (by decide) (by decide +kernel) (by decide) ?_
                  exact wLaw_c7 hF hl hNc hA hS hp hbc hbs h kk
                · replace h := ite_f c7 h
                  by_cases c8 : o = 8
                  · replace h := ite_t c8 h
                    refine k_tabIn hF (off := 684) (tgt := 723) dL_law_39 c8 (by decide) (by decide) (by decide +kernel) (by decide) ?_
                    exact wLaw_c8 hF hl hNc hA hS hp hbc hbs h kk
                  · replace h := ite_f c8 h
                    by_cases c9 : o = 9
                    · replace h := ite_t c9 h
                      refine k_tabIn hF (off := 697) (tgt := 736) dL_law_39 c9 (by decide) (by decide) (by decide +kernel) (by decide) ?_
                      exact wLaw_c9 hF hl hNc hA hS hp hbc hbs h kk
                    · replace h := ite_f c9 h
                      by_cases c10 : o = 10
                      · replace h := ite_t c10 h
                        refine k_tabIn hF (off := 760) (tgt := 799) dL_law_39 c10 (by decide) (by decide) (by decide +kernel) (by decide) ?_
                        exact wLaw_c10 hF hl hNc hA hS hp hbc hbs h kk
                      · replace h := ite_f c10 h
                        by_cases c11 : o = 11
                        · replace h := ite_t c11 h
                          refine k_tabIn hF (off := 816) (tgt := 855) dL_law_39 c11 (by decide) (by decide) (by decide +kernel) (by decide) ?_
                          exact wLaw_c11 hF hl hNc hA hS hp hbc hbs h kk
                        · replace h := ite_f c11 h
                          by_cases c12 : o = 12
                          · replace h := ite_t c12 h
                            refine k_tabIn hF (off := 829) (tgt := 868) dL_law_39 c12 (by decide) (by decide) (by decide +kernel) (by decide) ?_
                            exact wLaw_c12 hF hl hNc hA hS hp hbc hbs h kk
                          · replace h := ite_f c12 h
                            by_cases c13 : o = 13
                            · replace h := ite_t c13 h
                              refine k_tabIn hF (off := 885) (tgt := 924) dL_law_39 c13 (by decide) (by decide) (by decide +kernel) (by decide) ?_
                              exact wLaw_c13 hF hl hNc hA hS hp hbc hbs h kk
                            · replace h := ite_f c13 h
                              by_cases c14 : o = 14
                              · replace h := ite_t c14 h
                                refine k_tabIn hF (off := 929) (tgt := 968) dL_law_39 c14 (by decide) (by decide) (by decide +kernel) (by decide) ?_
                                exact wLaw_c14 hF hl hNc hA hS hp hbc hbs h kk
                              · replace h := ite_f c14 h
                                by_cases c15 : o = 15
                                · replace h := ite_t c15 h
                                  refine k_tabIn hF (off := 989) (tgt := 1028) dL_law_39 c15 (by decide) (by decide) (by decide +kernel) (by decide) ?_
                                  exact wLaw_c15 hF hl hNc hA hS hp hbc hbs h kk
                                · replace h := ite_f c15 h
                                  by_cases c16 : o = 16
                                  · replace h := ite_t c16 h
                                    refine k_tabIn hF (off := 1081) (tgt := 1120) dL_law_39 c16 (by decide) (by decide) (by decide +kernel) (by decide) ?_
                                    exact wLaw_c16 hF hl hNc hA hS hp hbc hbs h kk
                                  · replace h := ite_f c16 h
                                    by_cases c17 : o = 17
                                    · replace h := ite_t c17 h
                                      refine k_tabIn hF (off := 1129) (tgt := 1168) dL_law_39 c17 (by decide) (by decide) (by decide +kernel) (by decide) ?_
                                      exact wLaw_c17 hF hl hNc hA hS hp hbc hbs h kk
                                    · replace h := ite_f c17 h
                                      by_cases c18 : o = 18
                                      · replace h := ite_t c18 h
                                        refine k_tabIn hF (off := 1197) (tgt := 1236) dL_law_39 c18 (by decide) (by decide) (by decide +kernel) (by decide) ?_
                                        exact wLaw_c18 hF hl hNc hA hS hp hbc hbs h kk
                                      · replace h := ite_f c18 h
                                        by_cases c19 : o = 19
                                        · replace h := ite_t c19 h
                                          refine k_tabIn hF (off := 1265) (tgt := 1304) dL_law_39 c19 (by decide) (by decide) (by decide +kernel) (by decide) ?_
                                          exact wLaw_c19 hF hl hNc hA hS hp hbc hbs h kk
                                        · replace h := ite_f c19 h
                                          by_cases c20 : o = 20
                                          · replace h := ite_t c20 h
                                            refine k_tabIn hF (off := 1349) (tgt := 1388) dL_law_39 c20 (by decide) (by decide) (by decide +kernel) (by decide) ?_
                                            exact wLaw_c20 hF hl hNc hA hS hp hbc hbs h kk
                                          · replace h := ite_f c20 h
                                            by_cases c21 : o = 21
                                            · replace h := ite_t c21 h
                                              refine k_tabIn hF (off := 1362) (tgt := 1401) dL_law_39 c21 (by decide) (by decide) (by decide +kernel) (by decide) ?_
                                              exact wLaw_c21 hF hl hNc hA hS hp hbc hbs h kk
                                            · replace h := ite_f c21 h
                                              by_cases c22 : o = 22
                                              · replace h := ite_t c22 h
                                                refine k_tabIn hF (off := 1430) (tgt := 1469) dL_law_39 c22 (by decide) (by decide) (by decide +kernel) (by decide) ?_
                                                exact wLaw_c22 hF hl hNc hA hS hp hbc hbs h kk
                                              · replace h := ite_f c22 h
                                                by_cases c23 : o = 23
                                                · replace h := ite_t c23 h
                                                  refine k_tabIn hF (off := 1486) (tgt := 1525) dL_law_39 c23 (by decide) (by decide) (by decide +kernel) (by decide) ?_
                                                  exact wLaw_c23 hF hl hNc hA hS hp hbc hbs h kk
                                                · replace h := ite_f c23 h
                                                  by_cases c24 : o = 24
                                                  · replace h := ite_t c24 h
                                                    refine k_tabIn hF (off := 1554) (tgt := 1593) dL_law_39 c24 (by decide) (by decide) (by decide +kernel) (by decide) ?_
                                                    exact wLaw_c24 hF hl hNc hA hS hp hbc hbs h kk
                                                  · replace h := ite_f c24 h
                                                    by_cases c25 : o = 25
                                                    · replace h := ite_t c25 h
                                                      refine k_tabIn hF (off := 1598) (tgt := 1637) dL_law_39 c25 (by decide) (by decide) (by decide +kernel) (by decide) ?_
                                                      exact wLaw_c25 hF hl hNc hA hS hp hbc hbs h kk
                                                    · replace h := ite_f c25 h
                                                      by_cases c26 : o = 26
                                                      · replace h := ite_t c26 h
                                                        refine k_tabIn hF (off := 1666) (tgt := 1705) dL_law_39 c26 (by decide) (by decide) (by decide +kernel) (by decide) ?_
                                                        exact wLaw_c26 hF hl hNc hA hS hp hbc hbs h kk
                                                      · replace h := ite_f c26 h
                                                        by_cases c27 : o = 27
                                                        · replace h := ite_t c27 h
                                                          refine k_tabIn hF (off := 1734) (tgt := 1773) dL_law_39 c27 (by decide) (by decide) (by decide +kernel) (by decide) ?_
                                                          exact wLaw_c27 hF hl hNc hA hS hp hbc hbs h kk
                                                        · replace h := ite_f c27 h
                                                          by_cases c28 : o = 28
                                                          · replace h := ite_t c28 h
                                                            refine k_tabIn hF (off := 1790) (tgt := 1829) dL_law_39 c28 (by decide) (by decide) (by decide +kernel) (by decide) ?_
                                                            exact wLaw_c28 hF hl hNc hA hS hp hbc hbs h kk
                                                          · replace h := ite_f c28 h
                                                            by_cases c29 : o = 29
                                                            · replace h := ite_t c29 h
                                                              refine k_tabIn hF (off := 1865) (tgt := 1904) dL_law_39 c29 (by decide) (by decide) (by decide +kernel) (by decide) ?_
                                                              exact wLaw_c29 hF hl hNc hA hS hp hbc hbs h kk
                                                            · replace h := ite_f c29 h
                                                              by_cases c30 : o = 30
                                                              · replace h := ite_t c30 h
                                                                refine k_tabIn hF (off := 1945) (tgt := 1984) dL_law_39 c30 (by decide) (by decide) (by decide +kernel) (by decide) ?_
                                                                exact wLaw_c30 hF hl hNc hA hS hp hbc hbs h kk
                                                              · replace h := ite_f c30 h
                                                                by_cases c31 : o = 31
                                                                · replace h := ite_t c31 h
                                                                  refine k_tabIn hF (off := 2001) (tgt := 2040) dL_law_39 c31 (by decide) (by decide) (by decide +kernel) (by decide) ?_
                                                                  exact wLaw_c31 hF hl hNc hA hS hp hbc hbs h kk
                                                                · replace h := ite_f c31 h
                                                                  by_cases c32 : o = 32
                                                                  · replace h := ite_t c32 h
                                                                    refine k_tabIn hF (off := 2014) (tgt := 2053) dL_law_39 c32 (by decide) (by decide) (by decide +kernel) (by decide) ?_
                                                                    exact wLaw_c32 hF hl hNc hA hS hp hbc hbs h kk
                                                                  · replace h := ite_f c32 h
                                                                    by_cases c33 : o = 33
                                                                    · replace h := ite_t c33 h
                                                                      refine k_tabIn hF (off := 2094) (tgt := 2133) dL_law_39 c33 (by decide) (by decide) (by decide +kernel) (by decide) ?_
                                                                      exact wLaw_c33 hF hl hNc hA hS hp hbc hbs h kk
                                                                    · replace h := ite_f c33 h
                                                                      by_cases c34 : o = 34
                                                                      · replace h := ite_t c34 h
                                                                        refine k_tabIn hF (off := 2162) (tgt := 2201) dL_law_39 c34 (by decide) (by decide) (by decide +kernel) (by decide) ?_
                                                                        exact wLaw_c34 hF hl hNc hA hS hp hbc hbs h kk
                                                                      · replace h := ite_f c34 h
                                                                        by_cases c35 : o = 35
                                                                        · replace h := ite_t c35 h
                                                                          refine k_tabIn hF (off := 2230) (tgt := 2269) dL_law_39 c35 (by decide) (by decide) (by decide +kernel) (by decide) ?_
                                                                          exact wLaw_c35 hF hl hNc hA hS hp hbc hbs h kk
                                                                        · replace h := ite_f c35 h
                                                                          by_cases c36 : o = 36
                                                                          · replace h := ite_t c36 h
                                                                            refine k_tabIn hF (off := 2286) (tgt := 2325) dL_law_39 c36 (by decide) (by decide) (by decide +kernel) (by decide) ?_
                                                                            exact wLaw_c36 hF hl hNc hA hS hp hbc hbs h kk
                                                                          · replace h := ite_f c36 h
                                                                            by_cases c37 : o = 37
                                                                            · replace h := ite_t c37 h
                                                                              refine k_tabIn hF (off := 2342) (tgt := 2381) dL_law_39 c37 (by decide) (by decide) (by decide +kernel) (by decide) ?_
                                                                              exact wLaw_c37 hF hl hNc hA hS hp hbc hbs h kk
                                                                            · replace h := ite_f c37 h
                                                                              have i0 := i_ne c0
                                                                              have i1 := i_ne c1
                                                                              have i2 := i_ne c2
                                                                              have i3 := i_ne c3
                                                                              have i4 := i_ne c4
                                                                              have i5 := i_ne c5
                                                                              have i6 := i_ne c6
                                                                              have i7 := i_ne c7
                                                                              have i8 := i_ne c8
                                                                              have i9 := i_ne c9
                                                                              have i10 := i_ne c10
                                                                              have i11 := i_ne c11
                                                                              have i12 := i_ne c12
                                                                              have i13 := i_ne c13
                                                                              have i14 := i_ne c14
                                                                              have i15 := i_ne c15
                                                                              have i16 := i_ne c16
                                                                              have i17 := i_ne c17
                                                                              have i18 := i_ne c18
                                                                              have i19 := i_ne c19
                                                                              have i20 := i_ne c20
                                                                              have i21 := i_ne c21
                                                                              have i22 := i_ne c22
                                                                              have i23 := i_ne c23
                                                                              have i24 := i_ne c24
                                                                              have i25 := i_ne c25
                                                                              have i26 := i_ne c26
                                                                              have i27 := i_ne c27
                                                                              have i28 := i_ne c28
                                                                              have i29 := i_ne c29
                                                                              have i30 := i_ne c30
                                                                              have i31 := i_ne c31
                                                                              have i32 := i_ne c32
                                                                              have i33 := i_ne c33
                                                                              have i34 := i_ne c34
                                                                              have i35 := i_ne c35
                                                                              have i36 := i_ne c36
                                                                              have i37 := i_ne c37
                                                                              refine k_tabOut hF (tgt := 2437) dL_law_39 (by simp only [show (0 : Int32).toInt = 0 from by decide, show (1 : Int32).toInt = 1 from by decide, show (2 : Int32).toInt = 2 from by decide, show (3 : Int32).toInt = 3 from by decide, show (4 : Int32).toInt = 4 from by decide, show (5 : Int32).toInt = 5 from by decide, show (6 : Int32).toInt = 6 from by decide, show (7 : Int32).toInt = 7 from by decide, show (8 : Int32).toInt = 8 from by decide, show (9 : Int32).toInt = 9 from by decide, show (10 : Int32).toInt = 10 from by decide, show (11 : Int32).toInt = 11 from by decide, show (12 : Int32).toInt = 12 from by decide, show (13 : Int32).toInt = 13 from by decide, show (14 : Int32).toInt = 14 from by decide, show (15 : Int32).toInt = 15 from by decide, show (16 : Int32).toInt = 16 from by decide, show (17 : Int32).toInt = 17 from by decide, show (18 : Int32).toInt = 18 from by decide, show (19 : Int32).toInt = 19 from by decide, show (20 : Int32).toInt = 20 from by decide, show (21 : Int32).toInt = 21 from by decide, show (22 : Int32).toInt = 22 from by decide, show (23 : Int32).toInt = 23 from by decide, show (24 : Int32).toInt = 24 from by decide, show (25 : Int32).toInt = 25 from by decide, show (26 : Int32).toInt = 26 from by decide, show (27 : Int32).toInt = 27 from by decide, show (28 : Int32).toInt = 28 from by decide, show (29 : Int32).toInt = 29 from by decide, show (30 : Int32).toInt = 30 from by decide, show (31 : Int32).toInt = 31 from by decide, show (32 : Int32).toInt = 32 from by decide, show (33 : Int32).toInt = 33 from by decide, show (34 : Int32).toInt = 34 from by decide, show (35 : Int32).toInt = 35 from by decide, show (36 : Int32).toInt = 36 from by decide, show (37 : Int32).toInt = 37 from by decide] at *; omega) (by decide) ?_
                                                                              cases h
                                                                              exact k_bud (by omega) (by omega) kk
