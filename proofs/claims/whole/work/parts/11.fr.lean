noncomputable def fX11_thrown (σ : St) : Option Int32 :=
  some ((gi σ 0 50))
noncomputable def fX11_fails (σ : St) (a1 : Int32) : Option (Int32 × St) :=
  lt (ui σ 0 50 a1) fun σ1 =>
  (if a1 ≤ 0 then
  some ((0 : Int32), σ1)
  else
  some ((1 : Int32), σ1))
noncomputable def fX11_isIn_j14 (σ : St) (a0 : Int32) (a1 : Int32) (a2 : Int32) : Option Int32 :=
  some ((0 : Int32))
noncomputable def fX11_isIn (σ : St) (a0 : Int32) (a1 : Int32) (a2 : Int32) : Option Int32 :=
  (if a0 < a1 then
  fX11_isIn_j14 σ a0 a1 a2
  else
  (if a2 < a0 then
  fX11_isIn_j14 σ a0 a1 a2
  else
  some ((1 : Int32))))
noncomputable def fX11_has (σ : St) (a0 : Int32) (a1 : Int32) : Option Int32 :=
  (if ((a0 >>> (a1 &&& 31)) &&& (1 : Int32)) = (1 : Int32) then
  some ((1 : Int32))
  else
  some ((0 : Int32)))
noncomputable def fX11_size_j24 (σ : St) (a0 : Int32) (b2 : Int32) (t0 : Int32) (t1 : Int32) : Option ((Int32 × Int32) ⊕ (Int32 × Int32)) :=
  some (.inl ((t1 + t0), (b2 + (1 : Int32))))
noncomputable def fX11_size_l4 (σ : St) (a0 : Int32) (x : (Int32 × Int32)) : Option ((Int32 × Int32) ⊕ (Int32 × Int32)) :=
  (if (24 : Int32) ≤ x.2 then
  some (.inr (x.1, x.2))
  else
  (fX11_has σ a0 x.2).bind fun v2 =>
  (if v2 = 0 then
  fX11_size_j24 σ a0 x.2 (0 : Int32) x.1
  else
  fX11_size_j24 σ a0 x.2 (1 : Int32) x.1))
noncomputable def fX11_size (σ : St) (a0 : Int32) : Option Int32 :=
  (loopF (fX11_size_l4 σ a0) ((0 : Int32), (0 : Int32))).bind fun x4 =>
  some (x4.1)
noncomputable def fX11_isLabel (σ : St) (a0 : Int32) : Option Int32 :=
  (fX11_isIn σ a0 (0 : Int32) (3 : Int32)).bind fun v1 =>
  gd (v1 &&& 1 = v1) <|
  some (v1)
noncomputable def fX11_isMachine (σ : St) (a0 : Int32) : Option Int32 :=
  (fX11_isIn σ a0 (0 : Int32) (2 : Int32)).bind fun v1 =>
  gd (v1 &&& 1 = v1) <|
  some (v1)
noncomputable def fX11_isNode_j29 (σ : St) (a1 : Int32) : Option Int32 :=
  some ((0 : Int32))
noncomputable def fX11_isNode (σ : St) (a1 : Int32) : Option Int32 :=
  (fX11_isIn σ a1 (0 : Int32) ((gi σ 0 1) - (1 : Int32))).bind fun v1 =>
  (if v1 = 0 then
  fX11_isNode_j29 σ a1
  else
  gd (inb a1 24) <|
  (if (gi σ 5 a1.toNatClampNeg) = (2147483647 : Int32) then
  some ((1 : Int32))
  else
  fX11_isNode_j29 σ a1))
noncomputable def fX11_isEdge_j29 (σ : St) (a1 : Int32) : Option Int32 :=
  some ((0 : Int32))
noncomputable def fX11_isEdge (σ : St) (a1 : Int32) : Option Int32 :=
  (fX11_isIn σ a1 (0 : Int32) ((gi σ 0 15) - (1 : Int32))).bind fun v1 =>
  (if v1 = 0 then
  fX11_isEdge_j29 σ a1
  else
  gd (inb a1 60) <|
  (if (gi σ 17 a1.toNatClampNeg) = (2147483647 : Int32) then
  some ((1 : Int32))
  else
  fX11_isEdge_j29 σ a1))
noncomputable def fX11_wasThere_j14 (σ : St) (a0 : Int32) (a1 : Int32) (a2 : Int32) : Option Int32 :=
  some ((0 : Int32))
noncomputable def fX11_wasThere (σ : St) (a0 : Int32) (a1 : Int32) (a2 : Int32) : Option Int32 :=
  (if a2 < a0 then
  fX11_wasThere_j14 σ a0 a1 a2
  else
  (if a1 ≤ a2 then
  fX11_wasThere_j14 σ a0 a1 a2
  else
  some ((1 : Int32))))
noncomputable def fX11_notes (σ : St) (a1 : Int32) (a2 : Int32) : Option St :=
  gd (inb a1 24) <|
  lt (ui σ 2 a1.toNatClampNeg a2) fun σ2 =>
  gd (inb (gi σ2 0 11) 65536) <|
  lt (ui σ2 10 (gi σ2 0 11).toNatClampNeg a1) fun σ4 =>
  gd (inb (gi σ4 0 11) 65536) <|
  lt (ui σ4 11 (gi σ4 0 11).toNatClampNeg (gi σ4 0 0)) fun σ6 =>
  gd (inb (gi σ6 0 11) 65536) <|
  lt (ui σ6 12 (gi σ6 0 11).toNatClampNeg a2) fun σ8 =>
  lt (ui σ8 0 11 ((gi σ8 0 11) + (1 : Int32))) fun σ9 =>
  gd (inb a1 24) <|
  lt (ui σ9 6 a1.toNatClampNeg (gi σ9 0 0)) fun σ11 =>
  some (σ11)
noncomputable def fX11_valueThen_j47 (σ : St) (a1 : Int32) (a2 : Int32) (b4 : Int32) (t0 : Int32) : Option ((Int32 × Int32) ⊕ (Int32 × Int32)) :=
  some (.inl (t0, (b4 + (1 : Int32))))
noncomputable def fX11_valueThen_j46 (σ : St) (a1 : Int32) (a2 : Int32) (b3 : Int32) (b4 : Int32) : Option ((Int32 × Int32) ⊕ (Int32 × Int32)) :=
  fX11_valueThen_j47 σ a1 a2 b4 b3
noncomputable def fX11_valueThen_l5 (σ : St) (a1 : Int32) (a2 : Int32) (x : (Int32 × Int32)) : Option ((Int32 × Int32) ⊕ (Int32 × Int32)) :=
  (if (gi σ 0 11) ≤ x.2 then
  some (.inr (x.1, x.2))
  else
  gd (inb x.2 65536) <|
  (if (gi σ 10 x.2.toNatClampNeg) = a1 then
  gd (inb x.2 65536) <|
  (if a2 < (gi σ 11 x.2.toNatClampNeg) then
  fX11_valueThen_j46 σ a1 a2 x.1 x.2
  else
  gd (inb x.2 65536) <|
  fX11_valueThen_j47 σ a1 a2 x.2 (gi σ 12 x.2.toNatClampNeg))
  else
  fX11_valueThen_j46 σ a1 a2 x.1 x.2))
noncomputable def fX11_valueThen (σ : St) (a1 : Int32) (a2 : Int32) : Option Int32 :=
  (loopF (fX11_valueThen_l5 σ a1 a2) ((0 : Int32), (0 : Int32))).bind fun x7 =>
  some (x7.1)
noncomputable def fX11_breaksKey_j62 (σ : St) (a1 : Int32) (a2 : Int32) (a3 : Int32) (b5 : Int32) (t0 : Int32) : Option ((Int32 × Int32) ⊕ (Int32 × Int32)) :=
  some (.inl (t0, (b5 + (1 : Int32))))
noncomputable def fX11_breaksKey_j57 (σ : St) (a1 : Int32) (a2 : Int32) (a3 : Int32) (b5 : Int32) : Option ((Int32 × Int32) ⊕ (Int32 × Int32)) :=
  fX11_breaksKey_j62 σ a1 a2 a3 b5 (1 : Int32)
noncomputable def fX11_breaksKey_j61 (σ : St) (a1 : Int32) (a2 : Int32) (a3 : Int32) (b5 : Int32) : Option ((Int32 × Int32) ⊕ (Int32 × Int32)) :=
  fX11_breaksKey_j62 σ a1 a2 a3 b5 (0 : Int32)
noncomputable def fX11_breaksKey_l6 (σ : St) (a1 : Int32) (a2 : Int32) (a3 : Int32) (x : (Int32 × Int32)) : Option ((Int32 × Int32) ⊕ (Int32 × Int32)) :=
  (if (gi σ 0 1) ≤ x.2 then
  some (.inr (x.1, x.2))
  else
  (if x.1 = 0 then
  (if x.2 = a1 then
  fX11_breaksKey_j61 σ a1 a2 a3 x.2
  else
  (fX11_isNode σ x.2).bind fun v4 =>
  (if v4 = 0 then
  fX11_breaksKey_j61 σ a1 a2 a3 x.2
  else
  gd (inb x.2 24) <|
  (if (gi σ 1 x.2.toNatClampNeg) = a2 then
  gd (inb x.2 24) <|
  (if (gi σ 2 x.2.toNatClampNeg) = a3 then
  fX11_breaksKey_j57 σ a1 a2 a3 x.2
  else
  fX11_breaksKey_j61 σ a1 a2 a3 x.2)
  else
  fX11_breaksKey_j61 σ a1 a2 a3 x.2)))
  else
  fX11_breaksKey_j57 σ a1 a2 a3 x.2))
noncomputable def fX11_breaksKey_j88 (σ : St) (a1 : Int32) (a2 : Int32) (a3 : Int32) : Option Int32 :=
  some ((0 : Int32))
noncomputable def fX11_breaksKey (σ : St) (a1 : Int32) (a2 : Int32) (a3 : Int32) : Option Int32 :=
  (loopF (fX11_breaksKey_l6 σ a1 a2 a3) ((0 : Int32), (0 : Int32))).bind fun x10 =>
  gd (inb a2 4) <|
  (if (gi σ 18 a2.toNatClampNeg) = 0 then
  fX11_breaksKey_j88 σ a1 a2 a3
  else
  (if x10.1 = 0 then
  fX11_breaksKey_j88 σ a1 a2 a3
  else
  some ((1 : Int32))))
noncomputable def fX11_nodesOn_j36 (σ : St) (a1 : Int32) (b3 : Int32) (t0 : Int32) (t1 : Int32) : Option ((Int32 × Int32) ⊕ (Int32 × Int32)) :=
  some (.inl ((t1 + t0), (b3 + (1 : Int32))))
noncomputable def fX11_nodesOn_j35 (σ : St) (a1 : Int32) (b3 : Int32) (t0 : Int32) : Option ((Int32 × Int32) ⊕ (Int32 × Int32)) :=
  fX11_nodesOn_j36 σ a1 b3 (0 : Int32) t0
noncomputable def fX11_nodesOn_l4 (σ : St) (a1 : Int32) (x : (Int32 × Int32)) : Option ((Int32 × Int32) ⊕ (Int32 × Int32)) :=
  (if (gi σ 0 1) ≤ x.2 then
  some (.inr (x.1, x.2))
  else
  (fX11_isNode σ x.2).bind fun v2 =>
  (if v2 = 0 then
  fX11_nodesOn_j35 σ a1 x.2 x.1
  else
  gd (inb x.2 24) <|
  (if (gi σ 3 x.2.toNatClampNeg) = a1 then
  fX11_nodesOn_j36 σ a1 x.2 (1 : Int32) x.1
  else
  fX11_nodesOn_j35 σ a1 x.2 x.1)))
noncomputable def fX11_nodesOn (σ : St) (a1 : Int32) : Option Int32 :=
  (loopF (fX11_nodesOn_l4 σ a1) ((0 : Int32), (0 : Int32))).bind fun x6 =>
  some (x6.1)
noncomputable def fX11_emptiest_j41 (σ : St) (b2 : Int32) (t0 : Int32) : Option ((Int32 × Int32) ⊕ (Int32 × Int32)) :=
  some (.inl (t0, (b2 + (1 : Int32))))
noncomputable def fX11_emptiest_j40 (σ : St) (b1 : Int32) (b2 : Int32) : Option ((Int32 × Int32) ⊕ (Int32 × Int32)) :=
  fX11_emptiest_j41 σ b2 b1
noncomputable def fX11_emptiest_j36 (σ : St) (b2 : Int32) : Option ((Int32 × Int32) ⊕ (Int32 × Int32)) :=
  fX11_emptiest_j41 σ b2 b2
noncomputable def fX11_emptiest_l4 (σ : St) (x : (Int32 × Int32)) : Option ((Int32 × Int32) ⊕ (Int32 × Int32)) :=
  (if (3 : Int32) ≤ x.2 then
  some (.inr (x.1, x.2))
  else
  gd (inb x.2 3) <|
  (if (gi σ 21 x.2.toNatClampNeg) = 0 then
  (if x.1 = (-1 : Int32) then
  fX11_emptiest_j36 σ x.2
  else
  (fX11_nodesOn σ x.2).bind fun v5 =>
  (fX11_nodesOn σ x.1).bind fun v6 =>
  (if v6 ≤ v5 then
  fX11_emptiest_j40 σ x.1 x.2
  else
  fX11_emptiest_j36 σ x.2))
  else
  fX11_emptiest_j40 σ x.1 x.2))
noncomputable def fX11_emptiest (σ : St) : Option Int32 :=
  (loopF (fX11_emptiest_l4 σ) ((-1 : Int32), (0 : Int32))).bind fun x8 =>
  some (x8.1)
noncomputable def fX11_node_j61 (σ : St) (a1 : Int32) (a2 : Int32) (t0 : Int32) : Option (Int32 × St) :=
  (fX11_fails σ t0).bind fun v6 =>
  (if v6.1 = 0 then
  (fX11_emptiest v6.2).bind fun v8 =>
  lt (ui v6.2 0 0 ((gi v6.2 0 0) + (1 : Int32))) fun σ9 =>
  gd (inb (gi v6.2 0 1) 24) <|
  lt (ui σ9 1 (gi v6.2 0 1).toNatClampNeg a1) fun σ11 =>
  gd (inb (gi v6.2 0 1) 24) <|
  lt (ui σ11 3 (gi v6.2 0 1).toNatClampNeg v8) fun σ13 =>
  gd (inb (gi v6.2 0 1) 24) <|
  lt (ui σ13 4 (gi v6.2 0 1).toNatClampNeg (gi σ13 0 0)) fun σ15 =>
  gd (inb (gi v6.2 0 1) 24) <|
  lt (ui σ15 5 (gi v6.2 0 1).toNatClampNeg (2147483647 : Int32)) fun σ17 =>
  gd (inb (gi v6.2 0 1) 24) <|
  lt (ui σ17 7 (gi v6.2 0 1).toNatClampNeg (gi v6.2 0 1)) fun σ19 =>
  gd (inb (gi v6.2 0 1) 24) <|
  lt (ui σ19 8 (gi v6.2 0 1).toNatClampNeg (1 : Int32)) fun σ21 =>
  lt (ui σ21 0 1 ((gi σ21 0 1) + (1 : Int32))) fun σ22 =>
  (fX11_notes σ22 (gi v6.2 0 1) a2).bind fun v23 =>
  some ((gi v6.2 0 1), v23)
  else
  some ((0 : Int32), v6.2))
noncomputable def fX11_node_j39 (σ : St) (a1 : Int32) (a2 : Int32) (t0 : Int32) : Option (Int32 × St) :=
  (fX11_isLabel σ a1).bind fun v3 =>
  (if v3 = 0 then
  fX11_node_j61 σ a1 a2 (1 : Int32)
  else
  (if t0 = 0 then
  fX11_node_j61 σ a1 a2 (2 : Int32)
  else
  fX11_node_j61 σ a1 a2 (0 : Int32)))
noncomputable def fX11_node_j38 (σ : St) (a1 : Int32) (a2 : Int32) : Option (Int32 × St) :=
  fX11_node_j39 σ a1 a2 (0 : Int32)
noncomputable def fX11_node (σ : St) (a1 : Int32) (a2 : Int32) : Option (Int32 × St) :=
  (fX11_isLabel σ a1).bind fun v1 =>
  (if v1 = 0 then
  fX11_node_j38 σ a1 a2
  else
  (if (24 : Int32) ≤ (gi σ 0 1) then
  fX11_node_j38 σ a1 a2
  else
  (fX11_emptiest σ).bind fun v25 =>
  (if v25 = (-1 : Int32) then
  fX11_node_j38 σ a1 a2
  else
  (fX11_breaksKey σ (-1 : Int32) a1 a2).bind fun v27 =>
  (if v27 = 0 then
  fX11_node_j39 σ a1 a2 (1 : Int32)
  else
  fX11_node_j38 σ a1 a2))))
noncomputable def fX11_fitsShape_j40 (σ : St) (a1 : Int32) (a2 : Int32) (a3 : Int32) : Option Int32 :=
  some ((1 : Int32))
noncomputable def fX11_fitsShape_j44 (σ : St) (a1 : Int32) (a2 : Int32) (a3 : Int32) : Option Int32 :=
  some ((0 : Int32))
noncomputable def fX11_fitsShape (σ : St) (a1 : Int32) (a2 : Int32) (a3 : Int32) : Option Int32 :=
  gd (inb a1 4) <|
  (if (gi σ 19 a1.toNatClampNeg) = (-1 : Int32) then
  fX11_fitsShape_j40 σ a1 a2 a3
  else
  gd (inb a2 24) <|
  gd (inb a1 4) <|
  (if (gi σ 1 a2.toNatClampNeg) = (gi σ 19 a1.toNatClampNeg) then
  gd (inb a3 24) <|
  gd (inb a1 4) <|
  (if (gi σ 1 a3.toNatClampNeg) = (gi σ 20 a1.toNatClampNeg) then
  fX11_fitsShape_j40 σ a1 a2 a3
  else
  fX11_fitsShape_j44 σ a1 a2 a3)
  else
  fX11_fitsShape_j44 σ a1 a2 a3))
noncomputable def fX11_adds (σ : St) (a1 : Int32) (a2 : Int32) (a3 : Int32) : Option (Int32 × St) :=
  gd (inb (gi σ 0 15) 60) <|
  lt (ui σ 13 (gi σ 0 15).toNatClampNeg a1) fun σ2 =>
  gd (inb (gi σ2 0 15) 60) <|
  lt (ui σ2 14 (gi σ2 0 15).toNatClampNeg a3) fun σ4 =>
  gd (inb (gi σ4 0 15) 60) <|
  lt (ui σ4 15 (gi σ4 0 15).toNatClampNeg a2) fun σ6 =>
  gd (inb (gi σ6 0 15) 60) <|
  lt (ui σ6 16 (gi σ6 0 15).toNatClampNeg (gi σ6 0 0)) fun σ8 =>
  gd (inb (gi σ8 0 15) 60) <|
  lt (ui σ8 17 (gi σ8 0 15).toNatClampNeg (2147483647 : Int32)) fun σ10 =>
  lt (ui σ10 0 15 ((gi σ10 0 15) + (1 : Int32))) fun σ11 =>
  gd (inb a1 24) <|
  lt (ui σ11 6 a1.toNatClampNeg (gi σ11 0 0)) fun σ13 =>
  gd (inb a3 24) <|
  lt (ui σ13 6 a3.toNatClampNeg (gi σ13 0 0)) fun σ15 =>
  gd (inb a1 24) <|
  lt (ui σ15 8 a1.toNatClampNeg (1 : Int32)) fun σ17 =>
  gd (inb a3 24) <|
  lt (ui σ17 8 a3.toNatClampNeg (1 : Int32)) fun σ19 =>
  some (((gi σ19 0 15) - (1 : Int32)), σ19)
noncomputable def fX11_edge_j64 (σ : St) (a1 : Int32) (a2 : Int32) (a3 : Int32) (t0 : Int32) : Option (Int32 × St) :=
  (fX11_fails σ t0).bind fun v5 =>
  (if v5.1 = 0 then
  lt (ui v5.2 0 0 ((gi v5.2 0 0) + (1 : Int32))) fun σ7 =>
  (fX11_adds σ7 a1 a2 a3).bind fun v8 =>
  some (v8.1, v8.2)
  else
  some ((0 : Int32), v5.2))
noncomputable def fX11_edge_j59 (σ : St) (a1 : Int32) (a2 : Int32) (a3 : Int32) : Option (Int32 × St) :=
  fX11_edge_j64 σ a1 a2 a3 (2 : Int32)
noncomputable def fX11_edge_j28 (σ : St) (a1 : Int32) (a2 : Int32) (a3 : Int32) (t0 : Int32) : Option (Int32 × St) :=
  (if t0 = 0 then
  fX11_edge_j64 σ a1 a2 a3 (1 : Int32)
  else
  (if (gi σ 0 15) = (60 : Int32) then
  fX11_edge_j59 σ a1 a2 a3
  else
  (fX11_fitsShape σ a2 a1 a3).bind fun v9 =>
  (if v9 = 0 then
  fX11_edge_j59 σ a1 a2 a3
  else
  fX11_edge_j64 σ a1 a2 a3 (0 : Int32))))
noncomputable def fX11_edge_j27 (σ : St) (a1 : Int32) (a2 : Int32) (a3 : Int32) : Option (Int32 × St) :=
  fX11_edge_j28 σ a1 a2 a3 (0 : Int32)
noncomputable def fX11_edge (σ : St) (a1 : Int32) (a2 : Int32) (a3 : Int32) : Option (Int32 × St) :=
  (fX11_isNode σ a1).bind fun v1 =>
  (if v1 = 0 then
  fX11_edge_j27 σ a1 a2 a3
  else
  (fX11_isNode σ a3).bind fun v11 =>
  (if v11 = 0 then
  fX11_edge_j27 σ a1 a2 a3
  else
  (fX11_isLabel σ a2).bind fun v13 =>
  (if v13 = 0 then
  fX11_edge_j27 σ a1 a2 a3
  else
  fX11_edge_j28 σ a1 a2 a3 (1 : Int32))))
noncomputable def fX11_set_j35 (σ : St) (a1 : Int32) (a2 : Int32) (t0 : Int32) : Option (Int32 × St) :=
  (fX11_fails σ t0).bind fun v6 =>
  (if v6.1 = 0 then
  gd (inb a1 24) <|
  lt (gi v6.2 2 a1.toNatClampNeg) fun n9 =>
  lt (ui v6.2 0 0 ((gi v6.2 0 0) + (1 : Int32))) fun σ10 =>
  (fX11_notes σ10 a1 a2).bind fun v11 =>
  some (n9, v11)
  else
  some ((0 : Int32), v6.2))
noncomputable def fX11_set (σ : St) (a1 : Int32) (a2 : Int32) : Option (Int32 × St) :=
  (fX11_isNode σ a1).bind fun v1 =>
  (if v1 = 0 then
  fX11_set_j35 σ a1 a2 (1 : Int32)
  else
  gd (inb a1 24) <|
  (fX11_breaksKey σ a1 (gi σ 1 a1.toNatClampNeg) a2).bind fun v4 =>
  (if v4 = 0 then
  fX11_set_j35 σ a1 a2 (0 : Int32)
  else
  fX11_set_j35 σ a1 a2 (2 : Int32)))
noncomputable def fX11_wakes_l2 (σ : St) (x : (St × Int32)) : Option ((St × Int32) ⊕ (St × Int32)) :=
  (if (gi x.1 0 1) ≤ x.2 then
  some (.inr (x.1, x.2))
  else
  gd (inb x.2 24) <|
  lt (ui x.1 7 x.2.toNatClampNeg x.2) fun σ3 =>
  (fX11_isNode σ3 x.2).bind fun v4 =>
  gd (inb x.2 24) <|
  gd (v4 &&& 1 = v4) <|
  lt (ui σ3 8 x.2.toNatClampNeg v4) fun σ7 =>
  some (.inl (σ7, (x.2 + (1 : Int32)))))
noncomputable def fX11_wakes (σ : St) : Option St :=
  (loopF (fX11_wakes_l2 σ) (σ, (0 : Int32))).bind fun x8 =>
  some (x8.1)
noncomputable def fX11_drops (σ : St) (a1 : Int32) : Option St :=
  gd (inb a1 60) <|
  lt (ui σ 17 a1.toNatClampNeg (gi σ 0 0)) fun σ2 =>
  gd (inb a1 60) <|
  gd (inb (gi σ2 13 a1.toNatClampNeg) 24) <|
  lt (ui σ2 6 (gi σ2 13 a1.toNatClampNeg).toNatClampNeg (gi σ2 0 0)) fun σ5 =>
  gd (inb a1 60) <|
  gd (inb (gi σ5 14 a1.toNatClampNeg) 24) <|
  lt (ui σ5 6 (gi σ5 14 a1.toNatClampNeg).toNatClampNeg (gi σ5 0 0)) fun σ8 =>
  some (σ8)
noncomputable def fX11_dropEdge_j14 (σ : St) (a1 : Int32) (t0 : Int32) : Option (Int32 × St) :=
  (fX11_fails σ t0).bind fun v3 =>
  (if v3.1 = 0 then
  lt (ui v3.2 0 0 ((gi v3.2 0 0) + (1 : Int32))) fun σ5 =>
  (fX11_drops σ5 a1).bind fun v6 =>
  (fX11_wakes v6).bind fun v7 =>
  some ((gi v7 0 0), v7)
  else
  some ((0 : Int32), v3.2))
noncomputable def fX11_dropEdge (σ : St) (a1 : Int32) : Option (Int32 × St) :=
  (fX11_isEdge σ a1).bind fun v1 =>
  (if v1 = 0 then
  fX11_dropEdge_j14 σ a1 (1 : Int32)
  else
  fX11_dropEdge_j14 σ a1 (0 : Int32))
noncomputable def fX11_dropNode_j80 (σ : St) (a1 : Int32) (b2 : Int32) (b3 : Int32) : Option ((St × Int32 × Int32) ⊕ (St × Int32 × Int32)) :=
  some (.inl (σ, b2, (b3 + (1 : Int32))))
noncomputable def fX11_dropNode_j72 (σ : St) (a1 : Int32) (b2 : Int32) (b3 : Int32) : Option ((St × Int32 × Int32) ⊕ (St × Int32 × Int32)) :=
  (fX11_drops σ b3).bind fun v11 =>
  fX11_dropNode_j80 v11 a1 (b2 + (1 : Int32)) b3
noncomputable def fX11_dropNode_l36 (σ : St) (a1 : Int32) (x : (St × Int32 × Int32)) : Option ((St × Int32 × Int32) ⊕ (St × Int32 × Int32)) :=
  (if (gi x.1 0 15) ≤ x.2.2 then
  some (.inr (x.1, x.2.1, x.2.2))
  else
  (fX11_isEdge x.1 x.2.2).bind fun v7 =>
  (if v7 = 0 then
  fX11_dropNode_j80 x.1 a1 x.2.1 x.2.2
  else
  gd (inb x.2.2 60) <|
  (if (gi x.1 13 x.2.2.toNatClampNeg) = a1 then
  fX11_dropNode_j72 x.1 a1 x.2.1 x.2.2
  else
  gd (inb x.2.2 60) <|
  (if (gi x.1 14 x.2.2.toNatClampNeg) = a1 then
  fX11_dropNode_j72 x.1 a1 x.2.1 x.2.2
  else
  fX11_dropNode_j80 x.1 a1 x.2.1 x.2.2))))
noncomputable def fX11_dropNode_j14 (σ : St) (a1 : Int32) (t0 : Int32) : Option (Int32 × St) :=
  (fX11_fails σ t0).bind fun v3 =>
  (if v3.1 = 0 then
  lt (ui v3.2 0 0 ((gi v3.2 0 0) + (1 : Int32))) fun σ5 =>
  (loopF (fX11_dropNode_l36 σ5 a1) (σ5, (0 : Int32), (0 : Int32))).bind fun x14 =>
  gd (inb a1 24) <|
  lt (ui x14.1 5 a1.toNatClampNeg (gi x14.1 0 0)) fun σ16 =>
  gd (inb a1 24) <|
  lt (ui σ16 6 a1.toNatClampNeg (gi σ16 0 0)) fun σ18 =>
  (fX11_wakes σ18).bind fun v19 =>
  some (x14.2.1, v19)
  else
  some ((0 : Int32), v3.2))
noncomputable def fX11_dropNode (σ : St) (a1 : Int32) : Option (Int32 × St) :=
  (fX11_isNode σ a1).bind fun v1 =>
  (if v1 = 0 then
  fX11_dropNode_j14 σ a1 (1 : Int32)
  else
  fX11_dropNode_j14 σ a1 (0 : Int32))
noncomputable def fX11_isUnlike_j84 (σ : St) (a1 : Int32) (ea3b : Int32) (b4 : Int32) (t0 : Int32) : Option ((Int32 × Int32) ⊕ (Int32 × Int32)) :=
  some (.inl (t0, (b4 + (1 : Int32))))
noncomputable def fX11_isUnlike_j83 (σ : St) (a1 : Int32) (ea3b : Int32) (b4 : Int32) : Option ((Int32 × Int32) ⊕ (Int32 × Int32)) :=
  fX11_isUnlike_j84 σ a1 ea3b b4 (0 : Int32)
noncomputable def fX11_isUnlike_j79 (σ : St) (a1 : Int32) (ea3b : Int32) (b4 : Int32) : Option ((Int32 × Int32) ⊕ (Int32 × Int32)) :=
  fX11_isUnlike_j84 σ a1 ea3b b4 (1 : Int32)
noncomputable def fX11_isUnlike_l15 (σ : St) (a1 : Int32) (ea3b : Int32) (x : (Int32 × Int32)) : Option ((Int32 × Int32) ⊕ (Int32 × Int32)) :=
  (if ea3b ≤ x.2 then
  some (.inr (x.1, x.2))
  else
  (if x.1 = 0 then
  fX11_isUnlike_j83 σ a1 ea3b x.2
  else
  (fX11_isNode σ ea3b).bind fun v4 =>
  (if v4 = 0 then
  fX11_isUnlike_j79 σ a1 ea3b x.2
  else
  (fX11_isNode σ x.2).bind fun v6 =>
  (if v6 = 0 then
  fX11_isUnlike_j79 σ a1 ea3b x.2
  else
  gd (inb ea3b 24) <|
  (if (gi σ 1 ea3b.toNatClampNeg) = a1 then
  gd (inb x.2 24) <|
  (if (gi σ 1 x.2.toNatClampNeg) = a1 then
  gd (inb ea3b 24) <|
  gd (inb x.2 24) <|
  (if (gi σ 2 ea3b.toNatClampNeg) = (gi σ 2 x.2.toNatClampNeg) then
  fX11_isUnlike_j83 σ a1 ea3b x.2
  else
  fX11_isUnlike_j79 σ a1 ea3b x.2)
  else
  fX11_isUnlike_j79 σ a1 ea3b x.2)
  else
  fX11_isUnlike_j79 σ a1 ea3b x.2)))))
noncomputable def fX11_isUnlike_l4 (σ : St) (a1 : Int32) (x : (Int32 × Int32)) : Option ((Int32 × Int32) ⊕ (Int32 × Int32)) :=
  (if (gi σ 0 1) ≤ x.2 then
  some (.inr (x.1, x.2))
  else
  (loopF (fX11_isUnlike_l15 σ a1 x.2) (x.1, (0 : Int32))).bind fun x15 =>
  some (.inl (x15.1, (x.2 + (1 : Int32)))))
noncomputable def fX11_isUnlike (σ : St) (a1 : Int32) : Option Int32 :=
  (loopF (fX11_isUnlike_l4 σ a1) ((1 : Int32), (0 : Int32))).bind fun x16 =>
  gd (x16.1 &&& 1 = x16.1) <|
  some (x16.1)
noncomputable def fX11_key_j61 (σ : St) (a1 : Int32) (t0 : Int32) (t1 : Int32) : Option (Int32 × St) :=
  gd (inb t1 4) <|
  gd (t0 &&& 1 = t0) <|
  lt (ui σ 18 t1.toNatClampNeg t0) fun σ11 =>
  gd (inb a1 4) <|
  gd ((gi σ11 18 a1.toNatClampNeg) &&& 1 = (gi σ11 18 a1.toNatClampNeg)) <|
  some ((gi σ11 18 a1.toNatClampNeg), σ11)
noncomputable def fX11_key_j34 (σ : St) (a1 : Int32) (t0 : Int32) : Option (Int32 × St) :=
  (fX11_fails σ t0).bind fun v5 =>
  (if v5.1 = 0 then
  gd (inb a1 4) <|
  (if (gi v5.2 18 a1.toNatClampNeg) = 0 then
  fX11_key_j61 v5.2 a1 (1 : Int32) a1
  else
  fX11_key_j61 v5.2 a1 (0 : Int32) a1)
  else
  some ((0 : Int32), v5.2))
noncomputable def fX11_key_j29 (σ : St) (a1 : Int32) : Option (Int32 × St) :=
  fX11_key_j34 σ a1 (0 : Int32)
noncomputable def fX11_key (σ : St) (a1 : Int32) : Option (Int32 × St) :=
  (fX11_isLabel σ a1).bind fun v1 =>
  (if v1 = 0 then
  fX11_key_j34 σ a1 (1 : Int32)
  else
  gd (inb a1 4) <|
  (if (gi σ 18 a1.toNatClampNeg) = 0 then
  (fX11_isUnlike σ a1).bind fun v14 =>
  (if v14 = 0 then
  fX11_key_j34 σ a1 (2 : Int32)
  else
  fX11_key_j29 σ a1)
  else
  fX11_key_j29 σ a1))
noncomputable def fX11_shape_j122 (σ : St) (a1 : Int32) (a2 : Int32) (a3 : Int32) (ea4 : Int32) (b6 : Int32) (t0 : Int32) : Option ((Int32 × Int32) ⊕ (Int32 × Int32)) :=
  some (.inl (t0, (b6 + (1 : Int32))))
noncomputable def fX11_shape_j121 (σ : St) (a1 : Int32) (a2 : Int32) (a3 : Int32) (ea4 : Int32) (b6 : Int32) : Option ((Int32 × Int32) ⊕ (Int32 × Int32)) :=
  fX11_shape_j122 σ a1 a2 a3 ea4 b6 (0 : Int32)
noncomputable def fX11_shape_j117 (σ : St) (a1 : Int32) (a2 : Int32) (a3 : Int32) (ea4 : Int32) (b6 : Int32) : Option ((Int32 × Int32) ⊕ (Int32 × Int32)) :=
  fX11_shape_j122 σ a1 a2 a3 ea4 b6 (1 : Int32)
noncomputable def fX11_shape_l41 (σ : St) (a1 : Int32) (a2 : Int32) (a3 : Int32) (ea4 : Int32) (x : (Int32 × Int32)) : Option ((Int32 × Int32) ⊕ (Int32 × Int32)) :=
  (if (gi σ 0 15) ≤ x.2 then
  some (.inr (x.1, x.2))
  else
  (if ea4 = 0 then
  some (.inr (x.1, x.2))
  else
  (if a2 = (-1 : Int32) then
  some (.inr (x.1, x.2))
  else
  (if x.1 = 0 then
  fX11_shape_j121 σ a1 a2 a3 ea4 x.2
  else
  (fX11_isEdge σ x.2).bind fun v7 =>
  (if v7 = 0 then
  fX11_shape_j117 σ a1 a2 a3 ea4 x.2
  else
  gd (inb x.2 60) <|
  (if (gi σ 15 x.2.toNatClampNeg) = a1 then
  gd (inb x.2 60) <|
  gd (inb (gi σ 13 x.2.toNatClampNeg) 24) <|
  (if (gi σ 1 (gi σ 13 x.2.toNatClampNeg).toNatClampNeg) = a2 then
  gd (inb x.2 60) <|
  gd (inb (gi σ 14 x.2.toNatClampNeg) 24) <|
  (if (gi σ 1 (gi σ 14 x.2.toNatClampNeg).toNatClampNeg) = a3 then
  fX11_shape_j117 σ a1 a2 a3 ea4 x.2
  else
  fX11_shape_j121 σ a1 a2 a3 ea4 x.2)
  else
  fX11_shape_j121 σ a1 a2 a3 ea4 x.2)
  else
  fX11_shape_j117 σ a1 a2 a3 ea4 x.2))))))
noncomputable def fX11_shape_j150 (σ : St) (a1 : Int32) (a2 : Int32) (a3 : Int32) (t0 : Int32) : Option St :=
  (fX11_fails σ t0).bind fun v20 =>
  (if v20.1 = 0 then
  gd (inb a1 4) <|
  lt (ui v20.2 19 a1.toNatClampNeg a2) fun σ23 =>
  gd (inb a1 4) <|
  lt (ui σ23 20 a1.toNatClampNeg a3) fun σ25 =>
  some (σ25)
  else
  some (v20.2))
noncomputable def fX11_shape_j33 (σ : St) (a1 : Int32) (a2 : Int32) (a3 : Int32) (t0 : Int32) : Option St :=
  (loopF (fX11_shape_l41 σ a1 a2 a3 t0) ((1 : Int32), (0 : Int32))).bind fun x17 =>
  (if t0 = 0 then
  fX11_shape_j150 σ a1 a2 a3 (1 : Int32)
  else
  (if x17.1 = 0 then
  fX11_shape_j150 σ a1 a2 a3 (2 : Int32)
  else
  fX11_shape_j150 σ a1 a2 a3 (0 : Int32)))
noncomputable def fX11_shape_j32 (σ : St) (a1 : Int32) (a2 : Int32) (a3 : Int32) : Option St :=
  fX11_shape_j33 σ a1 a2 a3 (0 : Int32)
noncomputable def fX11_shape_j28 (σ : St) (a1 : Int32) (a2 : Int32) (a3 : Int32) : Option St :=
  fX11_shape_j33 σ a1 a2 a3 (1 : Int32)
noncomputable def fX11_shape (σ : St) (a1 : Int32) (a2 : Int32) (a3 : Int32) : Option St :=
  (fX11_isLabel σ a1).bind fun v1 =>
  (if v1 = 0 then
  fX11_shape_j32 σ a1 a2 a3
  else
  (fX11_isIn σ a2 (-1 : Int32) (3 : Int32)).bind fun v26 =>
  (if v26 = 0 then
  fX11_shape_j32 σ a1 a2 a3
  else
  (if a2 = (-1 : Int32) then
  fX11_shape_j28 σ a1 a2 a3
  else
  (fX11_isLabel σ a3).bind fun v29 =>
  (if v29 = 0 then
  fX11_shape_j32 σ a1 a2 a3
  else
  fX11_shape_j28 σ a1 a2 a3))))
noncomputable def fX11_move_j58 (σ : St) (a1 : Int32) (a2 : Int32) (t0 : Int32) : Option (Int32 × St) :=
  (fX11_fails σ t0).bind fun v7 =>
  (if v7.1 = 0 then
  gd (inb a1 24) <|
  lt (gi v7.2 3 a1.toNatClampNeg) fun n10 =>
  gd (inb a1 24) <|
  lt (ui v7.2 3 a1.toNatClampNeg a2) fun σ12 =>
  some (n10, σ12)
  else
  some ((0 : Int32), v7.2))
noncomputable def fX11_move_j53 (σ : St) (a1 : Int32) (a2 : Int32) : Option (Int32 × St) :=
  fX11_move_j58 σ a1 a2 (2 : Int32)
noncomputable def fX11_move_j20 (σ : St) (a1 : Int32) (a2 : Int32) (t0 : Int32) : Option (Int32 × St) :=
  (if t0 = 0 then
  fX11_move_j58 σ a1 a2 (1 : Int32)
  else
  gd (inb a1 24) <|
  gd (inb (gi σ 3 a1.toNatClampNeg) 3) <|
  (if (gi σ 21 (gi σ 3 a1.toNatClampNeg).toNatClampNeg) = 0 then
  gd (inb a2 3) <|
  (if (gi σ 21 a2.toNatClampNeg) = 0 then
  fX11_move_j58 σ a1 a2 (0 : Int32)
  else
  fX11_move_j53 σ a1 a2)
  else
  fX11_move_j53 σ a1 a2))
noncomputable def fX11_move_j19 (σ : St) (a1 : Int32) (a2 : Int32) : Option (Int32 × St) :=
  fX11_move_j20 σ a1 a2 (0 : Int32)
noncomputable def fX11_move (σ : St) (a1 : Int32) (a2 : Int32) : Option (Int32 × St) :=
  (fX11_isNode σ a1).bind fun v1 =>
  (if v1 = 0 then
  fX11_move_j19 σ a1 a2
  else
  (fX11_isMachine σ a2).bind fun v15 =>
  (if v15 = 0 then
  fX11_move_j19 σ a1 a2
  else
  fX11_move_j20 σ a1 a2 (1 : Int32)))
noncomputable def fX11_cuts_j51 (σ : St) (b2 : Int32) (t0 : Int32) (t1 : Int32) : Option ((Int32 × Int32) ⊕ (Int32 × Int32)) :=
  some (.inl ((t1 + t0), (b2 + (1 : Int32))))
noncomputable def fX11_cuts_j50 (σ : St) (b2 : Int32) (t0 : Int32) : Option ((Int32 × Int32) ⊕ (Int32 × Int32)) :=
  fX11_cuts_j51 σ b2 (0 : Int32) t0
noncomputable def fX11_cuts_l4 (σ : St) (x : (Int32 × Int32)) : Option ((Int32 × Int32) ⊕ (Int32 × Int32)) :=
  (if (gi σ 0 15) ≤ x.2 then
  some (.inr (x.1, x.2))
  else
  (fX11_isEdge σ x.2).bind fun v2 =>
  (if v2 = 0 then
  fX11_cuts_j50 σ x.2 x.1
  else
  gd (inb x.2 60) <|
  gd (inb (gi σ 13 x.2.toNatClampNeg) 24) <|
  gd (inb x.2 60) <|
  gd (inb (gi σ 14 x.2.toNatClampNeg) 24) <|
  (if (gi σ 3 (gi σ 13 x.2.toNatClampNeg).toNatClampNeg) = (gi σ 3 (gi σ 14 x.2.toNatClampNeg).toNatClampNeg) then
  fX11_cuts_j50 σ x.2 x.1
  else
  fX11_cuts_j51 σ x.2 (1 : Int32) x.1)))
noncomputable def fX11_cuts (σ : St) : Option Int32 :=
  (loopF (fX11_cuts_l4 σ) ((0 : Int32), (0 : Int32))).bind fun x9 =>
  some (x9.1)
noncomputable def fX11_shift_j173 (σ : St) (ea1b : Int32) (ea5b : Int32) (ea6b : Int32) (b2 : Int32) (b3 : Int32) (b4 : Int32) (b7 : Int32) : Option ((St × Int32 × Int32 × Int32 × Int32) ⊕ (St × Int32 × Int32 × Int32 × Int32)) :=
  some (.inl (σ, b2, b3, b4, (b7 + (1 : Int32))))
noncomputable def fX11_shift_l54 (σ : St) (ea1b : Int32) (ea5b : Int32) (ea6b : Int32) (x : (St × Int32 × Int32 × Int32 × Int32)) : Option ((St × Int32 × Int32 × Int32 × Int32) ⊕ (St × Int32 × Int32 × Int32 × Int32)) :=
  (if (3 : Int32) ≤ x.2.2.2.2 then
  some (.inr (x.1, x.2.1, x.2.2.1, x.2.2.2.1, x.2.2.2.2))
  else
  (fX11_isNode x.1 ea6b).bind fun v9 =>
  (if v9 = 0 then
  fX11_shift_j173 x.1 ea1b ea5b ea6b x.2.1 x.2.2.1 x.2.2.2.1 x.2.2.2.2
  else
  gd (inb ea6b 24) <|
  gd (inb (gi x.1 3 ea6b.toNatClampNeg) 3) <|
  (if (gi x.1 21 (gi x.1 3 ea6b.toNatClampNeg).toNatClampNeg) = 0 then
  gd (inb x.2.2.2.2 3) <|
  (if (gi x.1 21 x.2.2.2.2.toNatClampNeg) = 0 then
  gd (inb ea6b 24) <|
  (if (gi x.1 3 ea6b.toNatClampNeg) = x.2.2.2.2 then
  fX11_shift_j173 x.1 ea1b ea5b ea6b x.2.1 x.2.2.1 x.2.2.2.1 x.2.2.2.2
  else
  (fX11_nodesOn x.1 x.2.2.2.2).bind fun v18 =>
  (if (ea5b + (2 : Int32)) < (v18 + (1 : Int32)) then
  fX11_shift_j173 x.1 ea1b ea5b ea6b x.2.1 x.2.2.1 x.2.2.2.1 x.2.2.2.2
  else
  gd (inb ea6b 24) <|
  lt (gi x.1 3 ea6b.toNatClampNeg) fun n21 =>
  gd (inb ea6b 24) <|
  lt (ui x.1 3 ea6b.toNatClampNeg x.2.2.2.2) fun σ23 =>
  (fX11_cuts σ23).bind fun v24 =>
  gd (inb ea6b 24) <|
  lt (ui σ23 3 ea6b.toNatClampNeg n21) fun σ26 =>
  (if (ea1b - v24) ≤ x.2.2.2.1 then
  fX11_shift_j173 σ26 ea1b ea5b ea6b x.2.1 x.2.2.1 x.2.2.2.1 x.2.2.2.2
  else
  fX11_shift_j173 σ26 ea1b ea5b ea6b ea6b x.2.2.2.2 (ea1b - v24) x.2.2.2.2)))
  else
  fX11_shift_j173 x.1 ea1b ea5b ea6b x.2.1 x.2.2.1 x.2.2.2.1 x.2.2.2.2)
  else
  fX11_shift_j173 x.1 ea1b ea5b ea6b x.2.1 x.2.2.1 x.2.2.2.1 x.2.2.2.2)))
noncomputable def fX11_shift_l42 (σ : St) (ea1 : Int32) (ea5 : Int32) (x : (St × Int32 × Int32 × Int32 × Int32)) : Option ((St × Int32 × Int32 × Int32 × Int32) ⊕ (St × Int32 × Int32 × Int32 × Int32)) :=
  (if (gi x.1 0 1) ≤ x.2.2.2.2 then
  some (.inr (x.1, x.2.1, x.2.2.1, x.2.2.2.1, x.2.2.2.2))
  else
  (loopF (fX11_shift_l54 x.1 ea1 ea5 x.2.2.2.2) (x.1, x.2.1, x.2.2.1, x.2.2.2.1, (0 : Int32))).bind fun x28 =>
  some (.inl (x28.1, x28.2.1, x28.2.2.1, x28.2.2.2.1, (x.2.2.2.2 + (1 : Int32)))))
noncomputable def fX11_shift_j197 (σ : St) (b2 : Int32) : Option (Int32 × St) :=
  some (b2, σ)
noncomputable def fX11_shift_j37 (σ : St) (b1 : Int32) (b2 : Int32) (b3 : Int32) (b4 : Int32) (t0 : Int32) : Option (Int32 × St) :=
  (loopF (fX11_shift_l42 σ b1 t0) (σ, b2, b3, b4, (0 : Int32))).bind fun x29 =>
  (if x29.2.1 = (-1 : Int32) then
  fX11_shift_j197 x29.1 x29.2.1
  else
  gd (inb x29.2.1 24) <|
  lt (ui x29.1 3 x29.2.1.toNatClampNeg x29.2.2.1) fun σ32 =>
  fX11_shift_j197 σ32 x29.2.1)
noncomputable def fX11_shift (σ : St) : Option (Int32 × St) :=
  lt (ui σ 0 50 (0 : Int32)) fun σ1 =>
  (fX11_cuts σ1).bind fun v2 =>
  (fX11_emptiest σ1).bind fun v3 =>
  (if v3 = (-1 : Int32) then
  fX11_shift_j37 σ1 v2 (-1 : Int32) (-1 : Int32) (0 : Int32) (0 : Int32)
  else
  (fX11_emptiest σ1).bind fun v5 =>
  (fX11_nodesOn σ1 v5).bind fun v6 =>
  fX11_shift_j37 σ1 v2 (-1 : Int32) (-1 : Int32) (0 : Int32) v6)
noncomputable def fX11_toggle_j40 (σ : St) (a1 : Int32) (t0 : Int32) (t1 : Int32) : Option (Int32 × St) :=
  gd (inb t1 3) <|
  gd (t0 &&& 1 = t0) <|
  lt (ui σ 21 t1.toNatClampNeg t0) fun σ9 =>
  gd (inb a1 3) <|
  (if (gi σ9 21 a1.toNatClampNeg) = 0 then
  some ((1 : Int32), σ9)
  else
  some ((0 : Int32), σ9))
noncomputable def fX11_toggle_j13 (σ : St) (a1 : Int32) (t0 : Int32) : Option (Int32 × St) :=
  (fX11_fails σ t0).bind fun v3 =>
  (if v3.1 = 0 then
  gd (inb a1 3) <|
  (if (gi v3.2 21 a1.toNatClampNeg) = 0 then
  fX11_toggle_j40 v3.2 a1 (1 : Int32) a1
  else
  fX11_toggle_j40 v3.2 a1 (0 : Int32) a1)
  else
  some ((0 : Int32), v3.2))
noncomputable def fX11_toggle (σ : St) (a1 : Int32) : Option (Int32 × St) :=
  (fX11_isMachine σ a1).bind fun v1 =>
  (if v1 = 0 then
  fX11_toggle_j13 σ a1 (1 : Int32)
  else
  fX11_toggle_j13 σ a1 (0 : Int32))
noncomputable def fX11_machine_j14 (σ : St) (a1 : Int32) (t0 : Int32) : Option (Int32 × St) :=
  (fX11_fails σ t0).bind fun v3 =>
  (if v3.1 = 0 then
  gd (inb a1 24) <|
  some ((gi v3.2 3 a1.toNatClampNeg), v3.2)
  else
  some ((0 : Int32), v3.2))
noncomputable def fX11_machine (σ : St) (a1 : Int32) : Option (Int32 × St) :=
  (fX11_isNode σ a1).bind fun v1 =>
  (if v1 = 0 then
  fX11_machine_j14 σ a1 (1 : Int32)
  else
  fX11_machine_j14 σ a1 (0 : Int32))
noncomputable def fX11_cut (σ : St) : Option (Int32 × St) :=
  lt (ui σ 0 50 (0 : Int32)) fun σ1 =>
  (fX11_cuts σ1).bind fun v2 =>
  some (v2, σ1)
noncomputable def fX11_copies_j131 (σ : St) (a1 : Int32) (b2 : Int32) (b3 : Int32) : Option ((Int32 × Int32) ⊕ (Int32 × Int32)) :=
  some (.inl (b2, (b3 + (1 : Int32))))
noncomputable def fX11_copies_j129 (σ : St) (a1 : Int32) (b3 : Int32) (t0 : Int32) (t1 : Int32) : Option ((Int32 × Int32) ⊕ (Int32 × Int32)) :=
  fX11_copies_j131 σ a1 (t1 ||| t0) b3
noncomputable def fX11_copies_j128 (σ : St) (a1 : Int32) (b3 : Int32) (t0 : Int32) : Option ((Int32 × Int32) ⊕ (Int32 × Int32)) :=
  fX11_copies_j129 σ a1 b3 (0 : Int32) t0
noncomputable def fX11_copies_j84 (σ : St) (a1 : Int32) (b3 : Int32) (t0 : Int32) (t1 : Int32) : Option ((Int32 × Int32) ⊕ (Int32 × Int32)) :=
  gd (inb b3 60) <|
  gd (inb (gi σ 14 b3.toNatClampNeg) 24) <|
  (if (gi σ 3 (gi σ 14 b3.toNatClampNeg).toNatClampNeg) = a1 then
  gd (inb b3 60) <|
  gd (inb (gi σ 13 b3.toNatClampNeg) 24) <|
  (if (gi σ 3 (gi σ 13 b3.toNatClampNeg).toNatClampNeg) = a1 then
  fX11_copies_j128 σ a1 b3 (t1 ||| t0)
  else
  gd (inb b3 60) <|
  fX11_copies_j129 σ a1 b3 ((1 : Int32) <<< ((gi σ 13 b3.toNatClampNeg) &&& 31)) (t1 ||| t0))
  else
  fX11_copies_j128 σ a1 b3 (t1 ||| t0))
noncomputable def fX11_copies_j83 (σ : St) (a1 : Int32) (b3 : Int32) (t0 : Int32) : Option ((Int32 × Int32) ⊕ (Int32 × Int32)) :=
  fX11_copies_j84 σ a1 b3 (0 : Int32) t0
noncomputable def fX11_copies_l25 (σ : St) (a1 : Int32) (x : (Int32 × Int32)) : Option ((Int32 × Int32) ⊕ (Int32 × Int32)) :=
  (if (gi σ 0 15) ≤ x.2 then
  some (.inr (x.1, x.2))
  else
  (fX11_isEdge σ x.2).bind fun v6 =>
  (if v6 = 0 then
  fX11_copies_j131 σ a1 x.1 x.2
  else
  gd (inb x.2 60) <|
  gd (inb (gi σ 13 x.2.toNatClampNeg) 24) <|
  (if (gi σ 3 (gi σ 13 x.2.toNatClampNeg).toNatClampNeg) = a1 then
  gd (inb x.2 60) <|
  gd (inb (gi σ 14 x.2.toNatClampNeg) 24) <|
  (if (gi σ 3 (gi σ 14 x.2.toNatClampNeg).toNatClampNeg) = a1 then
  fX11_copies_j83 σ a1 x.2 x.1
  else
  gd (inb x.2 60) <|
  fX11_copies_j84 σ a1 x.2 ((1 : Int32) <<< ((gi σ 14 x.2.toNatClampNeg) &&& 31)) x.1)
  else
  fX11_copies_j83 σ a1 x.2 x.1)))
noncomputable def fX11_copies_j13 (σ : St) (a1 : Int32) (t0 : Int32) : Option (Int32 × St) :=
  (fX11_fails σ t0).bind fun v3 =>
  (if v3.1 = 0 then
  (loopF (fX11_copies_l25 v3.2 a1) ((0 : Int32), (0 : Int32))).bind fun x22 =>
  (fX11_size v3.2 x22.1).bind fun v23 =>
  some (v23, v3.2)
  else
  some ((0 : Int32), v3.2))
noncomputable def fX11_copies (σ : St) (a1 : Int32) : Option (Int32 × St) :=
  (fX11_isMachine σ a1).bind fun v1 =>
  (if v1 = 0 then
  fX11_copies_j13 σ a1 (1 : Int32)
  else
  fX11_copies_j13 σ a1 (0 : Int32))
noncomputable def fX11_begin_j22 (σ : St) (b2 : Int32) (t0 : Int32) : Option ((Int32 × Int32) ⊕ (Int32 × Int32)) :=
  some (.inl (t0, (b2 + (-1 : Int32))))
noncomputable def fX11_begin_l4 (σ : St) (x : (Int32 × Int32)) : Option ((Int32 × Int32) ⊕ (Int32 × Int32)) :=
  (if x.2 < 0 then
  some (.inr (x.1, x.2))
  else
  gd (inb x.2 4) <|
  (if (gi σ 22 x.2.toNatClampNeg) = 0 then
  fX11_begin_j22 σ x.2 x.2
  else
  fX11_begin_j22 σ x.2 x.1))
noncomputable def fX11_begin_l74 (σ : St) (ea1 : Int32) (x : (St × Int32)) : Option ((St × Int32) ⊕ (St × Int32)) :=
  (if (24 : Int32) ≤ x.2 then
  some (.inr (x.1, x.2))
  else
  gd (inb (((24 : Int32) * ea1) + x.2) 96) <|
  lt (ui x.1 24 (((24 : Int32) * ea1) + x.2).toNatClampNeg (0 : Int32)) fun σ16 =>
  some (.inl (σ16, (x.2 + (1 : Int32)))))
noncomputable def fX11_begin_l100 (σ : St) (ea1 : Int32) (x : (St × Int32)) : Option ((St × Int32) ⊕ (St × Int32)) :=
  (if (60 : Int32) ≤ x.2 then
  some (.inr (x.1, x.2))
  else
  gd (inb (((60 : Int32) * ea1) + x.2) 240) <|
  lt (ui x.1 30 (((60 : Int32) * ea1) + x.2).toNatClampNeg (0 : Int32)) fun σ20 =>
  some (.inl (σ20, (x.2 + (1 : Int32)))))
noncomputable def fX11_begin_j40 (σ : St) (b1 : Int32) (t0 : Int32) : Option (Int32 × St) :=
  (fX11_fails σ t0).bind fun v6 =>
  (if v6.1 = 0 then
  gd (inb b1 4) <|
  lt (ui v6.2 22 b1.toNatClampNeg (1 : Int32)) fun σ9 =>
  gd (inb b1 4) <|
  lt (ui σ9 23 b1.toNatClampNeg (gi σ9 0 0)) fun σ11 =>
  gd (inb b1 4) <|
  lt (ui σ11 26 b1.toNatClampNeg (0 : Int32)) fun σ13 =>
  (loopF (fX11_begin_l74 σ13 b1) (σ13, (0 : Int32))).bind fun x17 =>
  (loopF (fX11_begin_l100 x17.1 b1) (x17.1, (0 : Int32))).bind fun x21 =>
  some (b1, x21.1)
  else
  some ((0 : Int32), v6.2))
noncomputable def fX11_begin (σ : St) : Option (Int32 × St) :=
  (loopF (fX11_begin_l4 σ) ((-1 : Int32), (3 : Int32))).bind fun x4 =>
  (if x4.1 = (-1 : Int32) then
  fX11_begin_j40 σ x4.1 (1 : Int32)
  else
  fX11_begin_j40 σ x4.1 (0 : Int32))
noncomputable def fX11_isTransaction_j22 (σ : St) (a1 : Int32) : Option Int32 :=
  some ((0 : Int32))
noncomputable def fX11_isTransaction (σ : St) (a1 : Int32) : Option Int32 :=
  (fX11_isIn σ a1 (0 : Int32) (3 : Int32)).bind fun v1 =>
  (if v1 = 0 then
  fX11_isTransaction_j22 σ a1
  else
  gd (inb a1 4) <|
  (if (gi σ 22 a1.toNatClampNeg) = 0 then
  fX11_isTransaction_j22 σ a1
  else
  some ((1 : Int32))))
noncomputable def fX11_seesNode_j50 (σ : St) (a1 : Int32) (a2 : Int32) : Option Int32 :=
  some ((0 : Int32))
noncomputable def fX11_seesNode (σ : St) (a1 : Int32) (a2 : Int32) : Option Int32 :=
  (fX11_isTransaction σ a1).bind fun v1 =>
  (if v1 = 0 then
  fX11_seesNode_j50 σ a1 a2
  else
  (fX11_isIn σ a2 (0 : Int32) ((gi σ 0 1) - (1 : Int32))).bind fun v3 =>
  (if v3 = 0 then
  fX11_seesNode_j50 σ a1 a2
  else
  gd (inb a2 24) <|
  gd (inb a2 24) <|
  gd (inb a1 4) <|
  (fX11_wasThere σ (gi σ 4 a2.toNatClampNeg) (gi σ 5 a2.toNatClampNeg) (gi σ 23 a1.toNatClampNeg)).bind fun v8 =>
  (if v8 = 0 then
  fX11_seesNode_j50 σ a1 a2
  else
  some ((1 : Int32)))))
noncomputable def fX11_seesEdge_j64 (σ : St) (a1 : Int32) (a2 : Int32) : Option Int32 :=
  some ((0 : Int32))
noncomputable def fX11_seesEdge (σ : St) (a1 : Int32) (a2 : Int32) : Option Int32 :=
  (fX11_isTransaction σ a1).bind fun v1 =>
  (if v1 = 0 then
  fX11_seesEdge_j64 σ a1 a2
  else
  (fX11_isIn σ a2 (0 : Int32) ((gi σ 0 15) - (1 : Int32))).bind fun v3 =>
  (if v3 = 0 then
  fX11_seesEdge_j64 σ a1 a2
  else
  gd (inb a2 60) <|
  gd (inb a2 60) <|
  gd (inb a1 4) <|
  (fX11_wasThere σ (gi σ 16 a2.toNatClampNeg) (gi σ 17 a2.toNatClampNeg) (gi σ 23 a1.toNatClampNeg)).bind fun v8 =>
  (if v8 = 0 then
  fX11_seesEdge_j64 σ a1 a2
  else
  gd (inb (((60 : Int32) * a1) + a2) 240) <|
  (if (gi σ 30 (((60 : Int32) * a1) + a2).toNatClampNeg) = 0 then
  some ((1 : Int32))
  else
  fX11_seesEdge_j64 σ a1 a2))))
noncomputable def fX11_write_j15 (σ : St) (a1 : Int32) (a2 : Int32) (a3 : Int32) (t0 : Int32) : Option St :=
  (fX11_fails σ t0).bind fun v3 =>
  (if v3.1 = 0 then
  gd (inb (((24 : Int32) * a1) + a2) 96) <|
  lt (ui v3.2 24 (((24 : Int32) * a1) + a2).toNatClampNeg (1 : Int32)) fun σ6 =>
  gd (inb (((24 : Int32) * a1) + a2) 96) <|
  lt (ui σ6 25 (((24 : Int32) * a1) + a2).toNatClampNeg a3) fun σ8 =>
  some (σ8)
  else
  some (v3.2))
noncomputable def fX11_write (σ : St) (a1 : Int32) (a2 : Int32) (a3 : Int32) : Option St :=
  (fX11_seesNode σ a1 a2).bind fun v1 =>
  (if v1 = 0 then
  fX11_write_j15 σ a1 a2 a3 (1 : Int32)
  else
  fX11_write_j15 σ a1 a2 a3 (0 : Int32))
noncomputable def fX11_link_j59 (σ : St) (a1 : Int32) (a2 : Int32) (a3 : Int32) (a4 : Int32) (t0 : Int32) : Option (Int32 × St) :=
  (fX11_fails σ t0).bind fun v6 =>
  (if v6.1 = 0 then
  gd (inb a1 4) <|
  lt (((8 : Int32) * a1) + (gi v6.2 26 a1.toNatClampNeg)) fun n9 =>
  gd (inb n9 32) <|
  lt (ui v6.2 27 n9.toNatClampNeg a2) fun σ11 =>
  gd (inb n9 32) <|
  lt (ui σ11 28 n9.toNatClampNeg a4) fun σ13 =>
  gd (inb n9 32) <|
  lt (ui σ13 29 n9.toNatClampNeg a3) fun σ15 =>
  gd (inb a1 4) <|
  gd (inb a1 4) <|
  lt (ui σ15 26 a1.toNatClampNeg ((gi σ15 26 a1.toNatClampNeg) + (1 : Int32))) fun σ18 =>
  gd (inb a1 4) <|
  some ((gi σ18 26 a1.toNatClampNeg), σ18)
  else
  some ((0 : Int32), v6.2))
noncomputable def fX11_link_j31 (σ : St) (a1 : Int32) (a2 : Int32) (a3 : Int32) (a4 : Int32) (t0 : Int32) : Option (Int32 × St) :=
  (if t0 = 0 then
  fX11_link_j59 σ a1 a2 a3 a4 (1 : Int32)
  else
  gd (inb a1 4) <|
  (if (gi σ 26 a1.toNatClampNeg) = (8 : Int32) then
  fX11_link_j59 σ a1 a2 a3 a4 (2 : Int32)
  else
  fX11_link_j59 σ a1 a2 a3 a4 (0 : Int32)))
noncomputable def fX11_link_j30 (σ : St) (a1 : Int32) (a2 : Int32) (a3 : Int32) (a4 : Int32) : Option (Int32 × St) :=
  fX11_link_j31 σ a1 a2 a3 a4 (0 : Int32)
noncomputable def fX11_link (σ : St) (a1 : Int32) (a2 : Int32) (a3 : Int32) (a4 : Int32) : Option (Int32 × St) :=
  (fX11_seesNode σ a1 a2).bind fun v1 =>
  (if v1 = 0 then
  fX11_link_j30 σ a1 a2 a3 a4
  else
  (fX11_seesNode σ a1 a4).bind fun v20 =>
  (if v20 = 0 then
  fX11_link_j30 σ a1 a2 a3 a4
  else
  (fX11_isLabel σ a3).bind fun v22 =>
  (if v22 = 0 then
  fX11_link_j30 σ a1 a2 a3 a4
  else
  fX11_link_j31 σ a1 a2 a3 a4 (1 : Int32))))
noncomputable def fX11_unlink_j15 (σ : St) (a1 : Int32) (a2 : Int32) (t0 : Int32) : Option St :=
  (fX11_fails σ t0).bind fun v3 =>
  (if v3.1 = 0 then
  gd (inb (((60 : Int32) * a1) + a2) 240) <|
  lt (ui v3.2 30 (((60 : Int32) * a1) + a2).toNatClampNeg (1 : Int32)) fun σ6 =>
  some (σ6)
  else
  some (v3.2))
noncomputable def fX11_unlink (σ : St) (a1 : Int32) (a2 : Int32) : Option St :=
  (fX11_seesEdge σ a1 a2).bind fun v1 =>
  (if v1 = 0 then
  fX11_unlink_j15 σ a1 a2 (1 : Int32)
  else
  fX11_unlink_j15 σ a1 a2 (0 : Int32))
noncomputable def fX11_read_j15 (σ : St) (a1 : Int32) (a2 : Int32) (t0 : Int32) : Option (Int32 × St) :=
  (fX11_fails σ t0).bind fun v3 =>
  (if v3.1 = 0 then
  gd (inb (((24 : Int32) * a1) + a2) 96) <|
  (if (gi v3.2 24 (((24 : Int32) * a1) + a2).toNatClampNeg) = 0 then
  gd (inb a1 4) <|
  (fX11_valueThen v3.2 a2 (gi v3.2 23 a1.toNatClampNeg)).bind fun v8 =>
  some (v8, v3.2)
  else
  gd (inb (((24 : Int32) * a1) + a2) 96) <|
  some ((gi v3.2 25 (((24 : Int32) * a1) + a2).toNatClampNeg), v3.2))
  else
  some ((0 : Int32), v3.2))
noncomputable def fX11_read (σ : St) (a1 : Int32) (a2 : Int32) : Option (Int32 × St) :=
  (fX11_seesNode σ a1 a2).bind fun v1 =>
  (if v1 = 0 then
  fX11_read_j15 σ a1 a2 (1 : Int32)
  else
  fX11_read_j15 σ a1 a2 (0 : Int32))
noncomputable def fX11_sees_j64 (σ : St) (a1 : Int32) (a2 : Int32) (b4 : Int32) (t0 : Int32) (t1 : Int32) : Option ((Int32 × Int32) ⊕ (Int32 × Int32)) :=
  some (.inl ((t1 + t0), (b4 + (1 : Int32))))
noncomputable def fX11_sees_j63 (σ : St) (a1 : Int32) (a2 : Int32) (b4 : Int32) (t0 : Int32) : Option ((Int32 × Int32) ⊕ (Int32 × Int32)) :=
  fX11_sees_j64 σ a1 a2 b4 (0 : Int32) t0
noncomputable def fX11_sees_l28 (σ : St) (a1 : Int32) (a2 : Int32) (x : (Int32 × Int32)) : Option ((Int32 × Int32) ⊕ (Int32 × Int32)) :=
  (if (gi σ 0 15) ≤ x.2 then
  some (.inr (x.1, x.2))
  else
  gd (inb x.2 60) <|
  (if (gi σ 13 x.2.toNatClampNeg) = a2 then
  (fX11_seesEdge σ a1 x.2).bind fun v8 =>
  (if v8 = 0 then
  fX11_sees_j63 σ a1 a2 x.2 x.1
  else
  fX11_sees_j64 σ a1 a2 x.2 (1 : Int32) x.1)
  else
  fX11_sees_j63 σ a1 a2 x.2 x.1))
noncomputable def fX11_sees_j111 (σ : St) (a1 : Int32) (a2 : Int32) (b4 : Int32) (t0 : Int32) (t1 : Int32) : Option ((Int32 × Int32) ⊕ (Int32 × Int32)) :=
  some (.inl ((t1 + t0), (b4 + (1 : Int32))))
noncomputable def fX11_sees_l78 (σ : St) (a1 : Int32) (a2 : Int32) (x : (Int32 × Int32)) : Option ((Int32 × Int32) ⊕ (Int32 × Int32)) :=
  gd (inb a1 4) <|
  (if (((8 : Int32) * a1) + (gi σ 26 a1.toNatClampNeg)) ≤ x.2 then
  some (.inr (x.1, x.2))
  else
  gd (inb x.2 32) <|
  (if (gi σ 27 x.2.toNatClampNeg) = a2 then
  fX11_sees_j111 σ a1 a2 x.2 (1 : Int32) x.1
  else
  fX11_sees_j111 σ a1 a2 x.2 (0 : Int32) x.1))
noncomputable def fX11_sees_j15 (σ : St) (a1 : Int32) (a2 : Int32) (t0 : Int32) : Option (Int32 × St) :=
  (fX11_fails σ t0).bind fun v3 =>
  (if v3.1 = 0 then
  (loopF (fX11_sees_l28 v3.2 a1 a2) ((0 : Int32), (0 : Int32))).bind fun x10 =>
  (loopF (fX11_sees_l78 v3.2 a1 a2) (x10.1, ((8 : Int32) * a1))).bind fun x15 =>
  some (x15.1, v3.2)
  else
  some ((0 : Int32), v3.2))
noncomputable def fX11_sees (σ : St) (a1 : Int32) (a2 : Int32) : Option (Int32 × St) :=
  (fX11_seesNode σ a1 a2).bind fun v1 =>
  (if v1 = 0 then
  fX11_sees_j15 σ a1 a2 (1 : Int32)
  else
  fX11_sees_j15 σ a1 a2 (0 : Int32))
noncomputable def fX11_touches_j32 (σ : St) (a1 : Int32) (b3 : Int32) (t0 : Int32) (t1 : Int32) : Option ((Int32 × Int32) ⊕ (Int32 × Int32)) :=
  some (.inl ((t1 ||| t0), (b3 + (1 : Int32))))
noncomputable def fX11_touches_l4 (σ : St) (a1 : Int32) (x : (Int32 × Int32)) : Option ((Int32 × Int32) ⊕ (Int32 × Int32)) :=
  (if (24 : Int32) ≤ x.2 then
  some (.inr (x.1, x.2))
  else
  gd (inb (((24 : Int32) * a1) + x.2) 96) <|
  (if (gi σ 24 (((24 : Int32) * a1) + x.2).toNatClampNeg) = 0 then
  fX11_touches_j32 σ a1 x.2 (0 : Int32) x.1
  else
  fX11_touches_j32 σ a1 x.2 ((1 : Int32) <<< (x.2 &&& 31)) x.1))
noncomputable def fX11_touches_l45 (σ : St) (a1 : Int32) (x : (Int32 × Int32)) : Option ((Int32 × Int32) ⊕ (Int32 × Int32)) :=
  gd (inb a1 4) <|
  (if (((8 : Int32) * a1) + (gi σ 26 a1.toNatClampNeg)) ≤ x.2 then
  some (.inr (x.1, x.2))
  else
  gd (inb x.2 32) <|
  gd (inb x.2 32) <|
  lt (x.1 ||| (((1 : Int32) <<< ((gi σ 27 x.2.toNatClampNeg) &&& 31)) ||| ((1 : Int32) <<< ((gi σ 28 x.2.toNatClampNeg) &&& 31)))) fun n9 =>
  some (.inl (n9, (x.2 + (1 : Int32)))))
noncomputable def fX11_touches_j130 (σ : St) (a1 : Int32) (b3 : Int32) (t0 : Int32) (t1 : Int32) : Option ((Int32 × Int32) ⊕ (Int32 × Int32)) :=
  some (.inl ((t1 ||| t0), (b3 + (1 : Int32))))
noncomputable def fX11_touches_l88 (σ : St) (a1 : Int32) (x : (Int32 × Int32)) : Option ((Int32 × Int32) ⊕ (Int32 × Int32)) :=
  (if (60 : Int32) ≤ x.2 then
  some (.inr (x.1, x.2))
  else
  gd (inb (((60 : Int32) * a1) + x.2) 240) <|
  (if (gi σ 30 (((60 : Int32) * a1) + x.2).toNatClampNeg) = 0 then
  fX11_touches_j130 σ a1 x.2 (0 : Int32) x.1
  else
  gd (inb x.2 60) <|
  gd (inb x.2 60) <|
  fX11_touches_j130 σ a1 x.2 (((1 : Int32) <<< ((gi σ 13 x.2.toNatClampNeg) &&& 31)) ||| ((1 : Int32) <<< ((gi σ 14 x.2.toNatClampNeg) &&& 31))) x.1))
noncomputable def fX11_touches (σ : St) (a1 : Int32) : Option Int32 :=
  (loopF (fX11_touches_l4 σ a1) ((0 : Int32), (0 : Int32))).bind fun x4 =>
  (loopF (fX11_touches_l45 σ a1) (x4.1, ((8 : Int32) * a1))).bind fun x10 =>
  (loopF (fX11_touches_l88 σ a1) (x10.1, (0 : Int32))).bind fun x16 =>
  some (x16.1)
noncomputable def fX11_laterValue (σ : St) (a1 : Int32) (a2 : Int32) : Option Int32 :=
  gd (inb (((24 : Int32) * a1) + a2) 96) <|
  (if (gi σ 24 (((24 : Int32) * a1) + a2).toNatClampNeg) = 0 then
  gd (inb a2 24) <|
  some ((gi σ 2 a2.toNatClampNeg))
  else
  gd (inb (((24 : Int32) * a1) + a2) 96) <|
  some ((gi σ 25 (((24 : Int32) * a1) + a2).toNatClampNeg)))
noncomputable def fX11_breaks_j76 (σ : St) (a1 : Int32) (b3 : Int32) (t0 : Int32) : Option ((Int32 × Int32) ⊕ (Int32 × Int32)) :=
  some (.inl (t0, (b3 + (1 : Int32))))
noncomputable def fX11_breaks_j71 (σ : St) (a1 : Int32) (b3 : Int32) : Option ((Int32 × Int32) ⊕ (Int32 × Int32)) :=
  fX11_breaks_j76 σ a1 b3 (1 : Int32)
noncomputable def fX11_breaks_l27 (σ : St) (a1 : Int32) (x : (Int32 × Int32)) : Option ((Int32 × Int32) ⊕ (Int32 × Int32)) :=
  gd (inb a1 4) <|
  (if (((8 : Int32) * a1) + (gi σ 26 a1.toNatClampNeg)) ≤ x.2 then
  some (.inr (x.1, x.2))
  else
  (if x.1 = 0 then
  gd (inb x.2 32) <|
  gd (inb x.2 32) <|
  gd (inb x.2 32) <|
  (fX11_fitsShape σ (gi σ 29 x.2.toNatClampNeg) (gi σ 27 x.2.toNatClampNeg) (gi σ 28 x.2.toNatClampNeg)).bind fun v9 =>
  (if v9 = 0 then
  fX11_breaks_j71 σ a1 x.2
  else
  fX11_breaks_j76 σ a1 x.2 (0 : Int32))
  else
  fX11_breaks_j71 σ a1 x.2))
noncomputable def fX11_breaks_j209 (σ : St) (a1 : Int32) (ea3b : Int32) (b4 : Int32) (t0 : Int32) : Option ((Int32 × Int32) ⊕ (Int32 × Int32)) :=
  some (.inl (t0, (b4 + (1 : Int32))))
noncomputable def fX11_breaks_j204 (σ : St) (a1 : Int32) (ea3b : Int32) (b4 : Int32) : Option ((Int32 × Int32) ⊕ (Int32 × Int32)) :=
  fX11_breaks_j209 σ a1 ea3b b4 (1 : Int32)
noncomputable def fX11_breaks_j208 (σ : St) (a1 : Int32) (ea3b : Int32) (b4 : Int32) : Option ((Int32 × Int32) ⊕ (Int32 × Int32)) :=
  fX11_breaks_j209 σ a1 ea3b b4 (0 : Int32)
noncomputable def fX11_breaks_j177 (σ : St) (a1 : Int32) (ea3b : Int32) (b2 : Int32) (b4 : Int32) (t0 : Int32) : Option ((Int32 × Int32) ⊕ (Int32 × Int32)) :=
  (if b2 = 0 then
  (if t0 = 0 then
  fX11_breaks_j208 σ a1 ea3b b4
  else
  (fX11_laterValue σ a1 ea3b).bind fun v17 =>
  (fX11_laterValue σ a1 b4).bind fun v18 =>
  (if v17 = v18 then
  fX11_breaks_j204 σ a1 ea3b b4
  else
  fX11_breaks_j208 σ a1 ea3b b4))
  else
  fX11_breaks_j204 σ a1 ea3b b4)
noncomputable def fX11_breaks_j176 (σ : St) (a1 : Int32) (ea3b : Int32) (b2 : Int32) (b4 : Int32) : Option ((Int32 × Int32) ⊕ (Int32 × Int32)) :=
  fX11_breaks_j177 σ a1 ea3b b2 b4 (0 : Int32)
noncomputable def fX11_breaks_l96 (σ : St) (a1 : Int32) (ea3b : Int32) (x : (Int32 × Int32)) : Option ((Int32 × Int32) ⊕ (Int32 × Int32)) :=
  (if (gi σ 0 1) ≤ x.2 then
  some (.inr (x.1, x.2))
  else
  (if ea3b = x.2 then
  fX11_breaks_j176 σ a1 ea3b x.1 x.2
  else
  (fX11_isNode σ ea3b).bind fun v20 =>
  (if v20 = 0 then
  fX11_breaks_j176 σ a1 ea3b x.1 x.2
  else
  (fX11_isNode σ x.2).bind fun v22 =>
  (if v22 = 0 then
  fX11_breaks_j176 σ a1 ea3b x.1 x.2
  else
  gd (inb (((24 : Int32) * a1) + ea3b) 96) <|
  (if (gi σ 24 (((24 : Int32) * a1) + ea3b).toNatClampNeg) = 0 then
  fX11_breaks_j176 σ a1 ea3b x.1 x.2
  else
  gd (inb ea3b 24) <|
  gd (inb (gi σ 1 ea3b.toNatClampNeg) 4) <|
  (if (gi σ 18 (gi σ 1 ea3b.toNatClampNeg).toNatClampNeg) = 0 then
  fX11_breaks_j176 σ a1 ea3b x.1 x.2
  else
  gd (inb ea3b 24) <|
  gd (inb x.2 24) <|
  (if (gi σ 1 ea3b.toNatClampNeg) = (gi σ 1 x.2.toNatClampNeg) then
  fX11_breaks_j177 σ a1 ea3b x.1 x.2 (1 : Int32)
  else
  fX11_breaks_j176 σ a1 ea3b x.1 x.2)))))))
noncomputable def fX11_breaks_l85 (σ : St) (a1 : Int32) (x : (Int32 × Int32)) : Option ((Int32 × Int32) ⊕ (Int32 × Int32)) :=
  (if (gi σ 0 1) ≤ x.2 then
  some (.inr (x.1, x.2))
  else
  (loopF (fX11_breaks_l96 σ a1 x.2) (x.1, (0 : Int32))).bind fun x32 =>
  some (.inl (x32.1, (x.2 + (1 : Int32)))))
noncomputable def fX11_breaks_j21 (σ : St) (a1 : Int32) (t0 : Int32) : Option Int32 :=
  (loopF (fX11_breaks_l27 σ a1) (t0, ((8 : Int32) * a1))).bind fun x11 =>
  (loopF (fX11_breaks_l85 σ a1) (x11.1, (0 : Int32))).bind fun x33 =>
  gd (x33.1 &&& 1 = x33.1) <|
  some (x33.1)
noncomputable def fX11_breaks (σ : St) (a1 : Int32) : Option Int32 :=
  gd (inb a1 4) <|
  (if ((gi σ 0 15) + (gi σ 26 a1.toNatClampNeg)) ≤ (60 : Int32) then
  fX11_breaks_j21 σ a1 (0 : Int32)
  else
  fX11_breaks_j21 σ a1 (1 : Int32))
noncomputable def fX11_commit_j43 (σ : St) (a1 : Int32) (a2 : Int32) : Option (Int32 × St) :=
  some ((gi σ 0 0), σ)
noncomputable def fX11_commit_j96 (σ : St) (a1 : Int32) (a2 : Int32) (ea3 : Int32) (b4 : Int32) : Option (Int32 ⊕ (Int32 ⊕ (Int32 × St))) :=
  some (.inl ((b4 + (1 : Int32))))
noncomputable def fX11_commit_j94 (σ : St) (a1 : Int32) (a2 : Int32) (ea3 : Int32) : Option (Int32 ⊕ (Int32 ⊕ (Int32 × St))) :=
  some (.inr (.inr ((-1 : Int32), σ)))
noncomputable def fX11_commit_l51 (σ : St) (a1 : Int32) (a2 : Int32) (ea3 : Int32) (x : Int32) : Option (Int32 ⊕ (Int32 ⊕ (Int32 × St))) :=
  (if (gi σ 0 1) ≤ x then
  some (.inr (.inl (x)))
  else
  (fX11_has σ ea3 x).bind fun v11 =>
  (if v11 = 0 then
  fX11_commit_j96 σ a1 a2 ea3 x
  else
  (fX11_isNode σ x).bind fun v13 =>
  (if v13 = 0 then
  fX11_commit_j94 σ a1 a2 ea3
  else
  gd (inb x 24) <|
  gd (inb a1 4) <|
  (if (gi σ 6 x.toNatClampNeg) ≤ (gi σ 23 a1.toNatClampNeg) then
  fX11_commit_j96 σ a1 a2 ea3 x
  else
  fX11_commit_j94 σ a1 a2 ea3))))
noncomputable def fX11_commit_j160 (σ : St) (a1 : Int32) (a2 : Int32) (b4 : Int32) (b5 : Int32) : Option ((St × Int32 × Int32) ⊕ (St × Int32 × Int32)) :=
  some (.inl (σ, b4, (b5 + (1 : Int32))))
noncomputable def fX11_commit_l129 (σ : St) (a1 : Int32) (a2 : Int32) (x : (St × Int32 × Int32)) : Option ((St × Int32 × Int32) ⊕ (St × Int32 × Int32)) :=
  (if (60 : Int32) ≤ x.2.2 then
  some (.inr (x.1, x.2.1, x.2.2))
  else
  gd (inb (((60 : Int32) * a1) + x.2.2) 240) <|
  (if (gi x.1 30 (((60 : Int32) * a1) + x.2.2).toNatClampNeg) = 0 then
  fX11_commit_j160 x.1 a1 a2 x.2.1 x.2.2
  else
  (fX11_drops x.1 x.2.2).bind fun v27 =>
  fX11_commit_j160 v27 a1 a2 (1 : Int32) x.2.2))
noncomputable def fX11_commit_j209 (σ : St) (a1 : Int32) (a2 : Int32) (ea4 : Int32) (b5 : Int32) : Option ((St × Int32) ⊕ (St × Int32)) :=
  some (.inl (σ, (b5 + (1 : Int32))))
noncomputable def fX11_commit_l169 (σ : St) (a1 : Int32) (a2 : Int32) (ea4 : Int32) (x : (St × Int32)) : Option ((St × Int32) ⊕ (St × Int32)) :=
  (if (24 : Int32) ≤ x.2 then
  some (.inr (x.1, x.2))
  else
  gd (inb (((24 : Int32) * a1) + x.2) 96) <|
  (if (gi x.1 24 (((24 : Int32) * a1) + x.2).toNatClampNeg) = 0 then
  fX11_commit_j209 x.1 a1 a2 ea4 x.2
  else
  gd (inb (((24 : Int32) * a1) + x.2) 96) <|
  (fX11_notes x.1 x.2 (gi x.1 25 (((24 : Int32) * a1) + x.2).toNatClampNeg)).bind fun v33 =>
  fX11_commit_j209 v33 a1 a2 ea4 x.2))
noncomputable def fX11_commit_l221 (σ : St) (a1 : Int32) (a2 : Int32) (ea4 : Int32) (x : (St × Int32)) : Option ((St × Int32) ⊕ (St × Int32)) :=
  gd (inb a1 4) <|
  (if (((8 : Int32) * a1) + (gi x.1 26 a1.toNatClampNeg)) ≤ x.2 then
  some (.inr (x.1, x.2))
  else
  gd (inb x.2 32) <|
  gd (inb x.2 32) <|
  gd (inb x.2 32) <|
  (fX11_adds x.1 (gi x.1 27 x.2.toNatClampNeg) (gi x.1 29 x.2.toNatClampNeg) (gi x.1 28 x.2.toNatClampNeg)).bind fun v40 =>
  some (.inl (v40.2, (x.2 + (1 : Int32)))))
noncomputable def fX11_commit_j278 (σ : St) (a1 : Int32) (a2 : Int32) : Option (Int32 × St) :=
  some ((gi σ 0 0), σ)
noncomputable def fX11_commit_j14 (σ : St) (a1 : Int32) (a2 : Int32) (t0 : Int32) : Option (Int32 × St) :=
  (fX11_fails σ t0).bind fun v3 =>
  (if v3.1 = 0 then
  gd (inb a1 4) <|
  lt (ui v3.2 22 a1.toNatClampNeg (0 : Int32)) fun σ6 =>
  (fX11_touches σ6 a1).bind fun v7 =>
  (if a2 = 0 then
  fX11_commit_j43 σ6 a1 a2
  else
  (if v7 = 0 then
  fX11_commit_j43 σ6 a1 a2
  else
  (loopF (fX11_commit_l51 σ6 a1 a2 v7) ((0 : Int32))).bind fun x18 => Sum.elim (fun x19 =>
  (fX11_breaks σ6 a1).bind fun v21 =>
  (if v21 = 0 then
  lt (ui σ6 0 0 ((gi σ6 0 0) + (1 : Int32))) fun σ23 =>
  (loopF (fX11_commit_l129 σ23 a1 a2) (σ23, (0 : Int32), (0 : Int32))).bind fun x28 =>
  (loopF (fX11_commit_l169 x28.1 a1 a2 x28.2.1) (x28.1, (0 : Int32))).bind fun x34 =>
  (loopF (fX11_commit_l221 x34.1 a1 a2 x28.2.1) (x34.1, ((8 : Int32) * a1))).bind fun x41 =>
  (if x28.2.1 = 0 then
  fX11_commit_j278 x41.1 a1 a2
  else
  (fX11_wakes x41.1).bind fun v43 =>
  fX11_commit_j278 v43 a1 a2)
  else
  some ((-2 : Int32), σ6))) (fun r20 => some (r20)) x18))
  else
  some ((0 : Int32), v3.2))
noncomputable def fX11_commit (σ : St) (a1 : Int32) (a2 : Int32) : Option (Int32 × St) :=
  (fX11_isTransaction σ a1).bind fun v1 =>
  (if v1 = 0 then
  fX11_commit_j14 σ a1 a2 (1 : Int32)
  else
  fX11_commit_j14 σ a1 a2 (0 : Int32))
noncomputable def fX11_time (σ : St) : Option (Int32 × St) :=
  lt (ui σ 0 50 (0 : Int32)) fun σ1 =>
  some ((gi σ1 0 0), σ1)
noncomputable def fX11_valueAt_j69 (σ : St) (a1 : Int32) (a2 : Int32) (t0 : Int32) : Option (Int32 × St) :=
  (fX11_fails σ t0).bind fun v6 =>
  (if v6.1 = 0 then
  (fX11_valueThen v6.2 a1 a2).bind fun v8 =>
  some (v8, v6.2)
  else
  some ((0 : Int32), v6.2))
noncomputable def fX11_valueAt_j48 (σ : St) (a1 : Int32) (a2 : Int32) (b3 : Int32) (t0 : Int32) : Option (Int32 × St) :=
  (if b3 = 0 then
  fX11_valueAt_j69 σ a1 a2 (2 : Int32)
  else
  (if t0 = 0 then
  fX11_valueAt_j69 σ a1 a2 (1 : Int32)
  else
  fX11_valueAt_j69 σ a1 a2 (0 : Int32)))
noncomputable def fX11_valueAt_j47 (σ : St) (a1 : Int32) (a2 : Int32) (b3 : Int32) : Option (Int32 × St) :=
  fX11_valueAt_j48 σ a1 a2 b3 (0 : Int32)
noncomputable def fX11_valueAt (σ : St) (a1 : Int32) (a2 : Int32) : Option (Int32 × St) :=
  (fX11_isIn σ a2 (0 : Int32) (gi σ 0 0)).bind fun v1 =>
  (fX11_isIn σ a1 (0 : Int32) ((gi σ 0 1) - (1 : Int32))).bind fun v2 =>
  (if v2 = 0 then
  fX11_valueAt_j47 σ a1 a2 v1
  else
  gd (inb a1 24) <|
  gd (inb a1 24) <|
  (fX11_wasThere σ (gi σ 4 a1.toNatClampNeg) (gi σ 5 a1.toNatClampNeg) a2).bind fun v11 =>
  (if v11 = 0 then
  fX11_valueAt_j47 σ a1 a2 v1
  else
  fX11_valueAt_j48 σ a1 a2 v1 (1 : Int32)))
noncomputable def fX11_sizeAt_j64 (σ : St) (a1 : Int32) (b3 : Int32) (t0 : Int32) (t1 : Int32) : Option ((Int32 × Int32) ⊕ (Int32 × Int32)) :=
  some (.inl ((t1 + t0), (b3 + (1 : Int32))))
noncomputable def fX11_sizeAt_l30 (σ : St) (a1 : Int32) (x : (Int32 × Int32)) : Option ((Int32 × Int32) ⊕ (Int32 × Int32)) :=
  (if (gi σ 0 1) ≤ x.2 then
  some (.inr (x.1, x.2))
  else
  gd (inb x.2 24) <|
  gd (inb x.2 24) <|
  (fX11_wasThere σ (gi σ 4 x.2.toNatClampNeg) (gi σ 5 x.2.toNatClampNeg) a1).bind fun v8 =>
  (if v8 = 0 then
  fX11_sizeAt_j64 σ a1 x.2 (0 : Int32) x.1
  else
  fX11_sizeAt_j64 σ a1 x.2 (100 : Int32) x.1))
noncomputable def fX11_sizeAt_j107 (σ : St) (a1 : Int32) (b3 : Int32) (t0 : Int32) (t1 : Int32) : Option ((Int32 × Int32) ⊕ (Int32 × Int32)) :=
  some (.inl ((t1 + t0), (b3 + (1 : Int32))))
noncomputable def fX11_sizeAt_l74 (σ : St) (a1 : Int32) (x : (Int32 × Int32)) : Option ((Int32 × Int32) ⊕ (Int32 × Int32)) :=
  (if (gi σ 0 15) ≤ x.2 then
  some (.inr (x.1, x.2))
  else
  gd (inb x.2 60) <|
  gd (inb x.2 60) <|
  (fX11_wasThere σ (gi σ 16 x.2.toNatClampNeg) (gi σ 17 x.2.toNatClampNeg) a1).bind fun v14 =>
  (if v14 = 0 then
  fX11_sizeAt_j107 σ a1 x.2 (0 : Int32) x.1
  else
  fX11_sizeAt_j107 σ a1 x.2 (1 : Int32) x.1))
noncomputable def fX11_sizeAt_j18 (σ : St) (a1 : Int32) (t0 : Int32) : Option (Int32 × St) :=
  (fX11_fails σ t0).bind fun v3 =>
  (if v3.1 = 0 then
  (loopF (fX11_sizeAt_l30 v3.2 a1) ((0 : Int32), (0 : Int32))).bind fun x10 =>
  (loopF (fX11_sizeAt_l74 v3.2 a1) (x10.1, (0 : Int32))).bind fun x16 =>
  some (x16.1, v3.2)
  else
  some ((0 : Int32), v3.2))
noncomputable def fX11_sizeAt (σ : St) (a1 : Int32) : Option (Int32 × St) :=
  (fX11_isIn σ a1 (0 : Int32) (gi σ 0 0)).bind fun v1 =>
  (if v1 = 0 then
  fX11_sizeAt_j18 σ a1 (1 : Int32)
  else
  fX11_sizeAt_j18 σ a1 (0 : Int32))
noncomputable def fX11_joined_j35 (σ : St) (a1 : Int32) (a2 : Int32) (b4 : Int32) (t0 : Int32) (t1 : Int32) : Option ((Int32 × Int32) ⊕ (Int32 × Int32)) :=
  some (.inl ((t1 ||| t0), (b4 + (1 : Int32))))
noncomputable def fX11_joined_l5 (σ : St) (a1 : Int32) (a2 : Int32) (x : (Int32 × Int32)) : Option ((Int32 × Int32) ⊕ (Int32 × Int32)) :=
  (if (24 : Int32) ≤ x.2 then
  some (.inr (x.1, x.2))
  else
  (fX11_has σ a1 x.2).bind fun v2 =>
  (if v2 = 0 then
  fX11_joined_j35 σ a1 a2 x.2 (0 : Int32) x.1
  else
  gd (inb (a2 + x.2) 96) <|
  fX11_joined_j35 σ a1 a2 x.2 (gi σ 41 (a2 + x.2).toNatClampNeg) x.1))
noncomputable def fX11_joined (σ : St) (a1 : Int32) (a2 : Int32) : Option Int32 :=
  (loopF (fX11_joined_l5 σ a1 a2) ((0 : Int32), (0 : Int32))).bind fun x5 =>
  some (x5.1)
noncomputable def fX11_infers_l2 (σ : St) (x : (St × Int32)) : Option ((St × Int32) ⊕ (St × Int32)) :=
  (if (96 : Int32) ≤ x.2 then
  some (.inr (x.1, x.2))
  else
  gd (inb x.2 96) <|
  lt (ui x.1 40 x.2.toNatClampNeg (0 : Int32)) fun σ3 =>
  some (.inl (σ3, (x.2 + (1 : Int32)))))
noncomputable def fX11_infers_j73 (σ : St) (b1 : Int32) (t0 : Int32) (t1 : Int32) (t2 : Int32) : Option ((St × Int32) ⊕ (St × Int32)) :=
  gd (inb t2 96) <|
  lt (ui σ 40 t2.toNatClampNeg (t1 ||| t0)) fun σ12 =>
  some (.inl (σ12, (b1 + (1 : Int32))))
noncomputable def fX11_infers_l23 (σ : St) (x : (St × Int32)) : Option ((St × Int32) ⊕ (St × Int32)) :=
  (if (gi x.1 0 15) ≤ x.2 then
  some (.inr (x.1, x.2))
  else
  gd (inb x.2 60) <|
  gd (inb x.2 60) <|
  gd (inb (((24 : Int32) * (gi x.1 15 x.2.toNatClampNeg)) + (gi x.1 13 x.2.toNatClampNeg)) 96) <|
  (fX11_isEdge x.1 x.2).bind fun v9 =>
  (if v9 = 0 then
  fX11_infers_j73 x.1 x.2 (0 : Int32) (gi x.1 40 (((24 : Int32) * (gi x.1 15 x.2.toNatClampNeg)) + (gi x.1 13 x.2.toNatClampNeg)).toNatClampNeg) (((24 : Int32) * (gi x.1 15 x.2.toNatClampNeg)) + (gi x.1 13 x.2.toNatClampNeg))
  else
  gd (inb x.2 60) <|
  fX11_infers_j73 x.1 x.2 ((1 : Int32) <<< ((gi x.1 14 x.2.toNatClampNeg) &&& 31)) (gi x.1 40 (((24 : Int32) * (gi x.1 15 x.2.toNatClampNeg)) + (gi x.1 13 x.2.toNatClampNeg)).toNatClampNeg) (((24 : Int32) * (gi x.1 15 x.2.toNatClampNeg)) + (gi x.1 13 x.2.toNatClampNeg))))
noncomputable def fX11_infers_l83 (σ : St) (x : (St × Int32)) : Option ((St × Int32) ⊕ (St × Int32)) :=
  (if (96 : Int32) ≤ x.2 then
  some (.inr (x.1, x.2))
  else
  gd (inb x.2 96) <|
  gd (inb x.2 96) <|
  lt (ui x.1 41 x.2.toNatClampNeg (gi x.1 40 x.2.toNatClampNeg)) fun σ18 =>
  some (.inl (σ18, (x.2 + (1 : Int32)))))
noncomputable def fX11_infers_j210 (σ : St) (ea2c : Int32) (b3 : Int32) (b4 : Int32) (b5 : Int32) (t0 : Int32) : Option ((St × Int32 × Int32) ⊕ (St × Int32 × Int32)) :=
  gd (inb b5 96) <|
  gd (inb b5 96) <|
  lt (ui σ 41 b5.toNatClampNeg ((gi σ 41 b5.toNatClampNeg) ||| b4)) fun σ34 =>
  some (.inl (σ34, t0, (b3 + (1 : Int32))))
noncomputable def fX11_infers_j205 (σ : St) (ea2c : Int32) (b3 : Int32) (b4 : Int32) (b5 : Int32) : Option ((St × Int32 × Int32) ⊕ (St × Int32 × Int32)) :=
  fX11_infers_j210 σ ea2c b3 b4 b5 (1 : Int32)
noncomputable def fX11_infers_l127 (σ : St) (ea2c : Int32) (x : (St × Int32 × Int32)) : Option ((St × Int32 × Int32) ⊕ (St × Int32 × Int32)) :=
  (if (24 : Int32) ≤ x.2.2 then
  some (.inr (x.1, x.2.1, x.2.2))
  else
  gd (inb ea2c 6) <|
  (if (gi x.1 39 ea2c.toNatClampNeg) = 0 then
  gd (inb ea2c 6) <|
  gd (inb (((24 : Int32) * (gi x.1 36 ea2c.toNatClampNeg)) + x.2.2) 96) <|
  gd (inb ea2c 6) <|
  (fX11_joined x.1 (gi x.1 41 (((24 : Int32) * (gi x.1 36 ea2c.toNatClampNeg)) + x.2.2).toNatClampNeg) ((24 : Int32) * (gi x.1 37 ea2c.toNatClampNeg))).bind fun v28 =>
  gd (inb ea2c 6) <|
  lt (((24 : Int32) * (gi x.1 38 ea2c.toNatClampNeg)) + x.2.2) fun n30 =>
  (if x.2.1 = 0 then
  gd (inb n30 96) <|
  (if (v28 &&& ((gi x.1 41 n30.toNatClampNeg) ^^^ (-1 : Int32))) = 0 then
  fX11_infers_j210 x.1 ea2c x.2.2 v28 n30 (0 : Int32)
  else
  fX11_infers_j205 x.1 ea2c x.2.2 v28 n30)
  else
  fX11_infers_j205 x.1 ea2c x.2.2 v28 n30)
  else
  some (.inr (x.1, x.2.1, x.2.2))))
noncomputable def fX11_infers_l117 (σ : St) (x : (St × Int32 × Int32)) : Option ((St × Int32 × Int32) ⊕ (St × Int32 × Int32)) :=
  (if (gi x.1 0 42) ≤ x.2.2 then
  some (.inr (x.1, x.2.1, x.2.2))
  else
  (loopF (fX11_infers_l127 x.1 x.2.2) (x.1, x.2.1, (0 : Int32))).bind fun x37 =>
  some (.inl (x37.1, x37.2.1, (x.2.2 + (1 : Int32)))))
noncomputable def fX11_infers_l109 (σ : St) (x : (St × Int32)) : Option ((St × Int32) ⊕ (St × Int32)) :=
  (if x.2 = 0 then
  some (.inr (x.1, x.2))
  else
  (loopF (fX11_infers_l117 x.1) (x.1, (0 : Int32), (0 : Int32))).bind fun x38 =>
  some (.inl (x38.1, x38.2.1)))
noncomputable def fX11_infers (σ : St) : Option St :=
  (loopF (fX11_infers_l2 σ) (σ, (0 : Int32))).bind fun x4 =>
  (loopF (fX11_infers_l23 x4.1) (x4.1, (0 : Int32))).bind fun x14 =>
  (loopF (fX11_infers_l83 x14.1) (x14.1, (0 : Int32))).bind fun x19 =>
  (loopF (fX11_infers_l109 x19.1) (x19.1, (1 : Int32))).bind fun x39 =>
  some (x39.1)
noncomputable def fX11_inferredNow_l8 (σ : St) (x : (Int32 × Int32)) : Option ((Int32 × Int32) ⊕ (Int32 × Int32)) :=
  (if (96 : Int32) ≤ x.2 then
  some (.inr (x.1, x.2))
  else
  gd (inb x.2 96) <|
  gd (inb x.2 96) <|
  (fX11_size σ ((gi σ 41 x.2.toNatClampNeg) &&& ((gi σ 40 x.2.toNatClampNeg) ^^^ (-1 : Int32)))).bind fun v5 =>
  some (.inl ((x.1 + v5), (x.2 + (1 : Int32)))))
noncomputable def fX11_inferredNow (σ : St) : Option (Int32 × St) :=
  (fX11_infers σ).bind fun v1 =>
  (loopF (fX11_inferredNow_l8 v1) ((0 : Int32), (0 : Int32))).bind fun x6 =>
  some (x6.1, v1)
noncomputable def fX11_rule_j52 (σ : St) (a1 : Int32) (a2 : Int32) (a3 : Int32) (t0 : Int32) : Option (Int32 × St) :=
  (fX11_fails σ t0).bind fun v5 =>
  (if v5.1 = 0 then
  gd (inb (gi v5.2 0 42) 6) <|
  lt (ui v5.2 36 (gi v5.2 0 42).toNatClampNeg a1) fun σ8 =>
  gd (inb (gi σ8 0 42) 6) <|
  lt (ui σ8 37 (gi σ8 0 42).toNatClampNeg a2) fun σ10 =>
  gd (inb (gi σ10 0 42) 6) <|
  lt (ui σ10 38 (gi σ10 0 42).toNatClampNeg a3) fun σ12 =>
  lt (ui σ12 0 42 ((gi σ12 0 42) + (1 : Int32))) fun σ13 =>
  some (((gi σ13 0 42) - (1 : Int32)), σ13)
  else
  some ((0 : Int32), v5.2))
noncomputable def fX11_rule_j26 (σ : St) (a1 : Int32) (a2 : Int32) (a3 : Int32) (t0 : Int32) : Option (Int32 × St) :=
  (if t0 = 0 then
  fX11_rule_j52 σ a1 a2 a3 (1 : Int32)
  else
  (if (gi σ 0 42) = (6 : Int32) then
  fX11_rule_j52 σ a1 a2 a3 (2 : Int32)
  else
  fX11_rule_j52 σ a1 a2 a3 (0 : Int32)))
noncomputable def fX11_rule_j25 (σ : St) (a1 : Int32) (a2 : Int32) (a3 : Int32) : Option (Int32 × St) :=
  fX11_rule_j26 σ a1 a2 a3 (0 : Int32)
noncomputable def fX11_rule (σ : St) (a1 : Int32) (a2 : Int32) (a3 : Int32) : Option (Int32 × St) :=
  (fX11_isLabel σ a1).bind fun v1 =>
  (if v1 = 0 then
  fX11_rule_j25 σ a1 a2 a3
  else
  (fX11_isLabel σ a2).bind fun v14 =>
  (if v14 = 0 then
  fX11_rule_j25 σ a1 a2 a3
  else
  (fX11_isLabel σ a3).bind fun v16 =>
  (if v16 = 0 then
  fX11_rule_j25 σ a1 a2 a3
  else
  fX11_rule_j26 σ a1 a2 a3 (1 : Int32))))
noncomputable def fX11_dropRule_j29 (σ : St) (a1 : Int32) (t0 : Int32) : Option (Int32 × St) :=
  (fX11_fails σ t0).bind fun v3 =>
  (if v3.1 = 0 then
  (fX11_inferredNow v3.2).bind fun v5 =>
  gd (inb a1 6) <|
  lt (ui v5.2 39 a1.toNatClampNeg (1 : Int32)) fun σ7 =>
  (fX11_inferredNow σ7).bind fun v8 =>
  some ((v5.1 - v8.1), v8.2)
  else
  some ((0 : Int32), v3.2))
noncomputable def fX11_dropRule_j28 (σ : St) (a1 : Int32) : Option (Int32 × St) :=
  fX11_dropRule_j29 σ a1 (1 : Int32)
noncomputable def fX11_dropRule (σ : St) (a1 : Int32) : Option (Int32 × St) :=
  (fX11_isIn σ a1 (0 : Int32) ((gi σ 0 42) - (1 : Int32))).bind fun v1 =>
  (if v1 = 0 then
  fX11_dropRule_j28 σ a1
  else
  gd (inb a1 6) <|
  (if (gi σ 39 a1.toNatClampNeg) = 0 then
  fX11_dropRule_j29 σ a1 (0 : Int32)
  else
  fX11_dropRule_j28 σ a1))
noncomputable def fX11_inferred (σ : St) : Option (Int32 × St) :=
  lt (ui σ 0 50 (0 : Int32)) fun σ1 =>
  (fX11_inferredNow σ1).bind fun v2 =>
  some (v2.1, v2.2)
noncomputable def fX11_reasons_j117 (σ : St) (a1 : Int32) (a2 : Int32) (a3 : Int32) (b6 : Int32) (t0 : Int32) (t1 : Int32) : Option ((Int32 × Int32) ⊕ (Int32 × Int32)) :=
  some (.inl ((t1 + t0), (b6 + (1 : Int32))))
noncomputable def fX11_reasons_j116 (σ : St) (a1 : Int32) (a2 : Int32) (a3 : Int32) (b6 : Int32) (t0 : Int32) : Option ((Int32 × Int32) ⊕ (Int32 × Int32)) :=
  fX11_reasons_j117 σ a1 a2 a3 b6 (0 : Int32) t0
noncomputable def fX11_reasons_l59 (σ : St) (a1 : Int32) (a2 : Int32) (a3 : Int32) (x : (Int32 × Int32)) : Option ((Int32 × Int32) ⊕ (Int32 × Int32)) :=
  (if (gi σ 0 15) ≤ x.2 then
  some (.inr (x.1, x.2))
  else
  (fX11_isEdge σ x.2).bind fun v8 =>
  (if v8 = 0 then
  fX11_reasons_j116 σ a1 a2 a3 x.2 x.1
  else
  gd (inb x.2 60) <|
  (if (gi σ 13 x.2.toNatClampNeg) = a1 then
  gd (inb x.2 60) <|
  (if (gi σ 14 x.2.toNatClampNeg) = a3 then
  gd (inb x.2 60) <|
  (if (gi σ 15 x.2.toNatClampNeg) = a2 then
  fX11_reasons_j117 σ a1 a2 a3 x.2 (1 : Int32) x.1
  else
  fX11_reasons_j116 σ a1 a2 a3 x.2 x.1)
  else
  fX11_reasons_j116 σ a1 a2 a3 x.2 x.1)
  else
  fX11_reasons_j116 σ a1 a2 a3 x.2 x.1)))
noncomputable def fX11_reasons_j226 (σ : St) (a1 : Int32) (a2 : Int32) (a3 : Int32) (ea6b : Int32) (b7 : Int32) (t0 : Int32) (t1 : Int32) : Option ((Int32 × Int32) ⊕ (Int32 × Int32)) :=
  some (.inl ((t1 + t0), (b7 + (1 : Int32))))
noncomputable def fX11_reasons_j225 (σ : St) (a1 : Int32) (a2 : Int32) (a3 : Int32) (ea6b : Int32) (b7 : Int32) (t0 : Int32) : Option ((Int32 × Int32) ⊕ (Int32 × Int32)) :=
  fX11_reasons_j226 σ a1 a2 a3 ea6b b7 (0 : Int32) t0
noncomputable def fX11_reasons_l141 (σ : St) (a1 : Int32) (a2 : Int32) (a3 : Int32) (ea6b : Int32) (x : (Int32 × Int32)) : Option ((Int32 × Int32) ⊕ (Int32 × Int32)) :=
  (if (24 : Int32) ≤ x.2 then
  some (.inr (x.1, x.2))
  else
  gd (inb ea6b 6) <|
  (if (gi σ 39 ea6b.toNatClampNeg) = 0 then
  gd (inb ea6b 6) <|
  (if (gi σ 38 ea6b.toNatClampNeg) = a2 then
  gd (inb ea6b 6) <|
  gd (inb (((24 : Int32) * (gi σ 36 ea6b.toNatClampNeg)) + a1) 96) <|
  (fX11_has σ (gi σ 41 (((24 : Int32) * (gi σ 36 ea6b.toNatClampNeg)) + a1).toNatClampNeg) x.2).bind fun v25 =>
  (if v25 = 0 then
  fX11_reasons_j225 σ a1 a2 a3 ea6b x.2 x.1
  else
  gd (inb ea6b 6) <|
  gd (inb (((24 : Int32) * (gi σ 37 ea6b.toNatClampNeg)) + x.2) 96) <|
  (fX11_has σ (gi σ 41 (((24 : Int32) * (gi σ 37 ea6b.toNatClampNeg)) + x.2).toNatClampNeg) a3).bind fun v29 =>
  (if v29 = 0 then
  fX11_reasons_j225 σ a1 a2 a3 ea6b x.2 x.1
  else
  fX11_reasons_j226 σ a1 a2 a3 ea6b x.2 (1 : Int32) x.1))
  else
  some (.inr (x.1, x.2)))
  else
  some (.inr (x.1, x.2))))
noncomputable def fX11_reasons_l129 (σ : St) (a1 : Int32) (a2 : Int32) (a3 : Int32) (x : (Int32 × Int32)) : Option ((Int32 × Int32) ⊕ (Int32 × Int32)) :=
  (if (gi σ 0 42) ≤ x.2 then
  some (.inr (x.1, x.2))
  else
  (loopF (fX11_reasons_l141 σ a1 a2 a3 x.2) (x.1, (0 : Int32))).bind fun x31 =>
  some (.inl (x31.1, (x.2 + (1 : Int32)))))
noncomputable def fX11_reasons_j41 (σ : St) (a1 : Int32) (a2 : Int32) (a3 : Int32) (t0 : Int32) : Option (Int32 × St) :=
  (fX11_fails σ t0).bind fun v4 =>
  (if v4.1 = 0 then
  (fX11_infers v4.2).bind fun v6 =>
  (loopF (fX11_reasons_l59 v6 a1 a2 a3) ((0 : Int32), (0 : Int32))).bind fun x16 =>
  (loopF (fX11_reasons_l129 v6 a1 a2 a3) (x16.1, (0 : Int32))).bind fun x32 =>
  some (x32.1, v6)
  else
  some ((0 : Int32), v4.2))
noncomputable def fX11_reasons_j28 (σ : St) (a1 : Int32) (a2 : Int32) (a3 : Int32) (t0 : Int32) : Option (Int32 × St) :=
  (if t0 = 0 then
  fX11_reasons_j41 σ a1 a2 a3 (1 : Int32)
  else
  fX11_reasons_j41 σ a1 a2 a3 (0 : Int32))
noncomputable def fX11_reasons_j27 (σ : St) (a1 : Int32) (a2 : Int32) (a3 : Int32) : Option (Int32 × St) :=
  fX11_reasons_j28 σ a1 a2 a3 (0 : Int32)
noncomputable def fX11_reasons (σ : St) (a1 : Int32) (a2 : Int32) (a3 : Int32) : Option (Int32 × St) :=
  (fX11_isNode σ a1).bind fun v1 =>
  (if v1 = 0 then
  fX11_reasons_j27 σ a1 a2 a3
  else
  (fX11_isNode σ a3).bind fun v33 =>
  (if v33 = 0 then
  fX11_reasons_j27 σ a1 a2 a3
  else
  (fX11_isLabel σ a2).bind fun v35 =>
  (if v35 = 0 then
  fX11_reasons_j27 σ a1 a2 a3
  else
  fX11_reasons_j28 σ a1 a2 a3 (1 : Int32))))
noncomputable def fX11_needed (σ : St) (a0 : Int32) : Option Int32 :=
  (if (3 : Int32) ≤ a0 then
  (if a0 = (5 : Int32) then
  some ((1 : Int32))
  else
  some ((2 : Int32)))
  else
  some ((0 : Int32)))
noncomputable def fX11_step_j156 (σ : St) (a1 : Int32) (a2 : Int32) (t0 : Int32) (t1 : Int32) : Option (Int32 × St) :=
  lt (ui σ 0 35 (t1 + t0)) fun σ17 =>
  some ((gi σ17 0 35), σ17)
noncomputable def fX11_step_j94 (σ : St) (a1 : Int32) (a2 : Int32) (t0 : Int32) : Option (Int32 × St) :=
  (fX11_fails σ t0).bind fun v8 =>
  (if v8.1 = 0 then
  gd (inb (gi v8.2 0 34) 12) <|
  lt (ui v8.2 31 (gi v8.2 0 34).toNatClampNeg a1) fun σ11 =>
  gd (inb (gi σ11 0 34) 12) <|
  lt (ui σ11 32 (gi σ11 0 34).toNatClampNeg a2) fun σ13 =>
  lt (ui σ13 0 34 ((gi σ13 0 34) + (1 : Int32))) fun σ14 =>
  (if (3 : Int32) ≤ a1 then
  (if a1 = (5 : Int32) then
  fX11_step_j156 σ14 a1 a2 (0 : Int32) (gi σ14 0 35)
  else
  fX11_step_j156 σ14 a1 a2 (-1 : Int32) (gi σ14 0 35))
  else
  fX11_step_j156 σ14 a1 a2 (1 : Int32) (gi σ14 0 35))
  else
  some ((0 : Int32), v8.2))
noncomputable def fX11_step_j89 (σ : St) (a1 : Int32) (a2 : Int32) : Option (Int32 × St) :=
  fX11_step_j94 σ a1 a2 (3 : Int32)
noncomputable def fX11_step_j40 (σ : St) (a1 : Int32) (a2 : Int32) (b3 : Int32) (b4 : Int32) (t0 : Int32) : Option (Int32 × St) :=
  (if b3 = 0 then
  fX11_step_j94 σ a1 a2 (2 : Int32)
  else
  (if b4 = 0 then
  fX11_step_j94 σ a1 a2 (1 : Int32)
  else
  (if t0 = 0 then
  fX11_step_j94 σ a1 a2 (2 : Int32)
  else
  (if (gi σ 0 34) = (12 : Int32) then
  fX11_step_j89 σ a1 a2
  else
  (fX11_needed σ a1).bind fun v18 =>
  (if v18 ≤ (gi σ 0 35) then
  fX11_step_j94 σ a1 a2 (0 : Int32)
  else
  fX11_step_j89 σ a1 a2)))))
noncomputable def fX11_step_j35 (σ : St) (a1 : Int32) (a2 : Int32) (b3 : Int32) (b4 : Int32) : Option (Int32 × St) :=
  fX11_step_j40 σ a1 a2 b3 b4 (1 : Int32)
noncomputable def fX11_step_j24 (σ : St) (a1 : Int32) (a2 : Int32) (b3 : Int32) (t0 : Int32) : Option (Int32 × St) :=
  (if a1 < (3 : Int32) then
  fX11_step_j35 σ a1 a2 b3 t0
  else
  (if a2 = 0 then
  fX11_step_j35 σ a1 a2 b3 t0
  else
  fX11_step_j40 σ a1 a2 b3 t0 (0 : Int32)))
noncomputable def fX11_step_j19 (σ : St) (a1 : Int32) (a2 : Int32) (b3 : Int32) : Option (Int32 × St) :=
  fX11_step_j24 σ a1 a2 b3 (1 : Int32)
noncomputable def fX11_step (σ : St) (a1 : Int32) (a2 : Int32) : Option (Int32 × St) :=
  (fX11_isIn σ a1 (0 : Int32) (5 : Int32)).bind fun v1 =>
  (if (3 : Int32) ≤ a1 then
  fX11_step_j19 σ a1 a2 v1
  else
  (fX11_isLabel σ a2).bind fun v21 =>
  (if v21 = 0 then
  fX11_step_j24 σ a1 a2 v1 (0 : Int32)
  else
  fX11_step_j19 σ a1 a2 v1))
noncomputable def fX11_pattern_l33 (σ : St) (x : (St × Int32)) : Option ((St × Int32) ⊕ (St × Int32)) :=
  (if (gi x.1 0 34) ≤ x.2 then
  some (.inr (x.1, x.2))
  else
  gd (inb x.2 12) <|
  gd (inb (((12 : Int32) * (gi x.1 0 38)) + x.2) 72) <|
  lt (ui x.1 34 (((12 : Int32) * (gi x.1 0 38)) + x.2).toNatClampNeg (gi x.1 31 x.2.toNatClampNeg)) fun σ7 =>
  gd (inb x.2 12) <|
  gd (inb (((12 : Int32) * (gi σ7 0 38)) + x.2) 72) <|
  lt (ui σ7 35 (((12 : Int32) * (gi σ7 0 38)) + x.2).toNatClampNeg (gi σ7 32 x.2.toNatClampNeg)) fun σ10 =>
  some (.inl (σ10, (x.2 + (1 : Int32)))))
noncomputable def fX11_pattern_j23 (σ : St) (t0 : Int32) : Option (Int32 × St) :=
  (fX11_fails σ t0).bind fun v2 =>
  (if v2.1 = 0 then
  (loopF (fX11_pattern_l33 v2.2) (v2.2, (0 : Int32))).bind fun x11 =>
  gd (inb (gi x11.1 0 38) 6) <|
  lt (ui x11.1 33 (gi x11.1 0 38).toNatClampNeg (gi x11.1 0 34)) fun σ13 =>
  lt (ui σ13 0 34 (0 : Int32)) fun σ14 =>
  lt (ui σ14 0 35 (0 : Int32)) fun σ15 =>
  lt (ui σ15 0 38 ((gi σ15 0 38) + (1 : Int32))) fun σ16 =>
  some (((gi σ16 0 38) - (1 : Int32)), σ16)
  else
  some ((0 : Int32), v2.2))
noncomputable def fX11_pattern_j18 (σ : St) : Option (Int32 × St) :=
  fX11_pattern_j23 σ (1 : Int32)
noncomputable def fX11_pattern (σ : St) : Option (Int32 × St) :=
  (if (gi σ 0 35) = (1 : Int32) then
  (if (gi σ 0 38) = (6 : Int32) then
  fX11_pattern_j18 σ
  else
  fX11_pattern_j23 σ (0 : Int32))
  else
  fX11_pattern_j18 σ)
noncomputable def fX11_reached_j46 (σ : St) (a1 : Int32) (b3 : Int32) (t0 : Int32) (t1 : Int32) : Option ((Int32 × Int32) ⊕ (Int32 × Int32)) :=
  some (.inl ((t1 ||| t0), (b3 + (1 : Int32))))
noncomputable def fX11_reached_j45 (σ : St) (a1 : Int32) (b3 : Int32) (t0 : Int32) : Option ((Int32 × Int32) ⊕ (Int32 × Int32)) :=
  fX11_reached_j46 σ a1 b3 (0 : Int32) t0
noncomputable def fX11_reached_j39 (σ : St) (a1 : Int32) (b3 : Int32) (t0 : Int32) : Option ((Int32 × Int32) ⊕ (Int32 × Int32)) :=
  fX11_reached_j46 σ a1 b3 ((1 : Int32) <<< (b3 &&& 31)) t0
noncomputable def fX11_reached_l4 (σ : St) (a1 : Int32) (x : (Int32 × Int32)) : Option ((Int32 × Int32) ⊕ (Int32 × Int32)) :=
  (if (gi σ 0 1) ≤ x.2 then
  some (.inr (x.1, x.2))
  else
  (fX11_isNode σ x.2).bind fun v2 =>
  (if v2 = 0 then
  fX11_reached_j45 σ a1 x.2 x.1
  else
  (if a1 = 0 then
  gd (inb x.2 24) <|
  gd (inb (gi σ 3 x.2.toNatClampNeg) 3) <|
  (if (gi σ 21 (gi σ 3 x.2.toNatClampNeg).toNatClampNeg) = 0 then
  fX11_reached_j39 σ a1 x.2 x.1
  else
  fX11_reached_j45 σ a1 x.2 x.1)
  else
  fX11_reached_j39 σ a1 x.2 x.1)))
noncomputable def fX11_reached (σ : St) (a1 : Int32) : Option Int32 :=
  (loopF (fX11_reached_l4 σ a1) ((0 : Int32), (0 : Int32))).bind fun x8 =>
  some (x8.1)
noncomputable def fX11_begins_l11 (σ : St) (a1 : Int32) (a2 : Int32) (a3 : Int32) (ea4 : Int32) (x : (St × Int32)) : Option ((St × Int32) ⊕ (St × Int32)) :=
  (if (24 : Int32) ≤ x.2 then
  some (.inr (x.1, x.2))
  else
  gd (inb (a2 + x.2) 288) <|
  lt (ui x.1 42 (a2 + x.2).toNatClampNeg (0 : Int32)) fun σ5 =>
  some (.inl (σ5, (x.2 + (1 : Int32)))))
noncomputable def fX11_begins_j215 (σ : St) (a1 : Int32) (a2 : Int32) (a3 : Int32) (ea4 : Int32) (b5 : Int32) : Option ((St × Int32) ⊕ (St × Int32)) :=
  some (.inl (σ, (b5 + (1 : Int32))))
noncomputable def fX11_begins_j207 (σ : St) (a1 : Int32) (a2 : Int32) (a3 : Int32) (ea4b : Int32) (ea5b : Int32) (b6 : Int32) (t0 : Int32) (t1 : Int32) (t2 : Int32) : Option ((St × Int32) ⊕ (St × Int32)) :=
  gd (inb t2 288) <|
  lt (ui σ 42 t2.toNatClampNeg (t1 ||| t0)) fun σ19 =>
  some (.inl (σ19, (b6 + (1 : Int32))))
noncomputable def fX11_begins_j206 (σ : St) (a1 : Int32) (a2 : Int32) (a3 : Int32) (ea4b : Int32) (ea5b : Int32) (b6 : Int32) (t0 : Int32) (t1 : Int32) : Option ((St × Int32) ⊕ (St × Int32)) :=
  fX11_begins_j207 σ a1 a2 a3 ea4b ea5b b6 (0 : Int32) t0 t1
noncomputable def fX11_begins_l152 (σ : St) (a1 : Int32) (a2 : Int32) (a3 : Int32) (ea4b : Int32) (ea5b : Int32) (x : (St × Int32)) : Option ((St × Int32) ⊕ (St × Int32)) :=
  (if (24 : Int32) ≤ x.2 then
  some (.inr (x.1, x.2))
  else
  gd (inb (a2 + x.2) 288) <|
  (fX11_has x.1 a3 x.2).bind fun v16 =>
  (if v16 = 0 then
  fX11_begins_j206 x.1 a1 a2 a3 ea4b ea5b x.2 (gi x.1 42 (a2 + x.2).toNatClampNeg) (a2 + x.2)
  else
  gd (inb (((24 : Int32) * ea4b) + ea5b) 96) <|
  (fX11_has x.1 (gi x.1 41 (((24 : Int32) * ea4b) + ea5b).toNatClampNeg) x.2).bind fun v21 =>
  (if v21 = 0 then
  fX11_begins_j206 x.1 a1 a2 a3 ea4b ea5b x.2 (gi x.1 42 (a2 + x.2).toNatClampNeg) (a2 + x.2)
  else
  fX11_begins_j207 x.1 a1 a2 a3 ea4b ea5b x.2 ((1 : Int32) <<< (ea5b &&& 31)) (gi x.1 42 (a2 + x.2).toNatClampNeg) (a2 + x.2))))
noncomputable def fX11_begins_j140 (σ : St) (a1 : Int32) (a2 : Int32) (a3 : Int32) (ea4 : Int32) (b5 : Int32) : Option ((St × Int32) ⊕ (St × Int32)) :=
  (fX11_has σ a3 b5).bind fun v12 =>
  (if v12 = 0 then
  fX11_begins_j215 σ a1 a2 a3 ea4 b5
  else
  (loopF (fX11_begins_l152 σ a1 a2 a3 ea4 b5) (σ, (0 : Int32))).bind fun x23 =>
  fX11_begins_j215 x23.1 a1 a2 a3 ea4 b5)
noncomputable def fX11_begins_j136 (σ : St) (a1 : Int32) (a2 : Int32) (a3 : Int32) (ea4 : Int32) (b5 : Int32) (t0 : Int32) (t1 : Int32) : Option ((St × Int32) ⊕ (St × Int32)) :=
  gd (inb t1 288) <|
  lt (ui σ 42 t1.toNatClampNeg t0) fun σ29 =>
  fX11_begins_j215 σ29 a1 a2 a3 ea4 b5
noncomputable def fX11_begins_j89 (σ : St) (a1 : Int32) (a2 : Int32) (a3 : Int32) (ea4 : Int32) (b5 : Int32) : Option ((St × Int32) ⊕ (St × Int32)) :=
  (fX11_has σ a3 b5).bind fun v10 =>
  (if v10 = 0 then
  fX11_begins_j140 σ a1 a2 a3 ea4 b5
  else
  gd (inb a1 72) <|
  (if (gi σ 34 a1.toNatClampNeg) = (2 : Int32) then
  gd (inb b5 24) <|
  (if (gi σ 1 b5.toNatClampNeg) = ea4 then
  fX11_begins_j136 σ a1 a2 a3 ea4 b5 ((1 : Int32) <<< (b5 &&& 31)) (a2 + b5)
  else
  fX11_begins_j136 σ a1 a2 a3 ea4 b5 (0 : Int32) (a2 + b5))
  else
  fX11_begins_j140 σ a1 a2 a3 ea4 b5))
noncomputable def fX11_begins_l37 (σ : St) (a1 : Int32) (a2 : Int32) (a3 : Int32) (ea4 : Int32) (x : (St × Int32)) : Option ((St × Int32) ⊕ (St × Int32)) :=
  (if (24 : Int32) ≤ x.2 then
  some (.inr (x.1, x.2))
  else
  (fX11_has x.1 a3 x.2).bind fun v8 =>
  (if v8 = 0 then
  fX11_begins_j89 x.1 a1 a2 a3 ea4 x.2
  else
  gd (inb a1 72) <|
  (if (gi x.1 34 a1.toNatClampNeg) = 0 then
  gd (inb (((24 : Int32) * ea4) + x.2) 96) <|
  gd (inb (a2 + x.2) 288) <|
  lt (ui x.1 42 (a2 + x.2).toNatClampNeg ((gi x.1 41 (((24 : Int32) * ea4) + x.2).toNatClampNeg) &&& a3)) fun σ34 =>
  fX11_begins_j215 σ34 a1 a2 a3 ea4 x.2
  else
  fX11_begins_j89 x.1 a1 a2 a3 ea4 x.2)))
noncomputable def fX11_begins (σ : St) (a1 : Int32) (a2 : Int32) (a3 : Int32) : Option St :=
  gd (inb a1 72) <|
  lt (gi σ 35 a1.toNatClampNeg) fun n2 =>
  (loopF (fX11_begins_l11 σ a1 a2 a3 n2) (σ, (0 : Int32))).bind fun x6 =>
  (loopF (fX11_begins_l37 x6.1 a1 a2 a3 n2) (x6.1, (0 : Int32))).bind fun x35 =>
  some (x35.1)
noncomputable def fX11_closes_j32 (σ : St) (a1 : Int32) (a2 : Int32) (b3 : Int32) (t0 : Int32) (t1 : Int32) (t2 : Int32) : Option ((St × Int32) ⊕ (St × Int32)) :=
  gd (inb t2 288) <|
  lt (ui σ 42 t2.toNatClampNeg (t1 ||| t0)) fun σ6 =>
  some (.inl (σ6, (b3 + (1 : Int32))))
noncomputable def fX11_closes_l2 (σ : St) (a1 : Int32) (a2 : Int32) (x : (St × Int32)) : Option ((St × Int32) ⊕ (St × Int32)) :=
  (if (24 : Int32) ≤ x.2 then
  some (.inr (x.1, x.2))
  else
  gd (inb (a1 + x.2) 288) <|
  (fX11_has x.1 a2 x.2).bind fun v3 =>
  (if v3 = 0 then
  fX11_closes_j32 x.1 a1 a2 x.2 (0 : Int32) (gi x.1 42 (a1 + x.2).toNatClampNeg) (a1 + x.2)
  else
  fX11_closes_j32 x.1 a1 a2 x.2 ((1 : Int32) <<< (x.2 &&& 31)) (gi x.1 42 (a1 + x.2).toNatClampNeg) (a1 + x.2)))
noncomputable def fX11_closes_j96 (σ : St) (a1 : Int32) (a2 : Int32) (ea3b : Int32) (b4 : Int32) (t0 : Int32) (t1 : Int32) (t2 : Int32) : Option ((St × Int32) ⊕ (St × Int32)) :=
  gd (inb t2 288) <|
  lt (ui σ 42 t2.toNatClampNeg (t1 ||| t0)) fun σ15 =>
  some (.inl (σ15, (b4 + (1 : Int32))))
noncomputable def fX11_closes_l51 (σ : St) (a1 : Int32) (a2 : Int32) (ea3b : Int32) (x : (St × Int32)) : Option ((St × Int32) ⊕ (St × Int32)) :=
  (if (24 : Int32) ≤ x.2 then
  some (.inr (x.1, x.2))
  else
  gd (inb (a1 + x.2) 288) <|
  gd (inb (a1 + x.2) 288) <|
  (fX11_has x.1 (gi x.1 42 (a1 + x.2).toNatClampNeg) ea3b).bind fun v12 =>
  (if v12 = 0 then
  fX11_closes_j96 x.1 a1 a2 ea3b x.2 (0 : Int32) (gi x.1 42 (a1 + x.2).toNatClampNeg) (a1 + x.2)
  else
  gd (inb (a1 + ea3b) 288) <|
  fX11_closes_j96 x.1 a1 a2 ea3b x.2 (gi x.1 42 (a1 + ea3b).toNatClampNeg) (gi x.1 42 (a1 + x.2).toNatClampNeg) (a1 + x.2)))
noncomputable def fX11_closes_l42 (σ : St) (a1 : Int32) (a2 : Int32) (x : (St × Int32)) : Option ((St × Int32) ⊕ (St × Int32)) :=
  (if (24 : Int32) ≤ x.2 then
  some (.inr (x.1, x.2))
  else
  (loopF (fX11_closes_l51 x.1 a1 a2 x.2) (x.1, (0 : Int32))).bind fun x17 =>
  some (.inl (x17.1, (x.2 + (1 : Int32)))))
noncomputable def fX11_closes (σ : St) (a1 : Int32) (a2 : Int32) : Option St :=
  (loopF (fX11_closes_l2 σ a1 a2) (σ, (0 : Int32))).bind fun x7 =>
  (loopF (fX11_closes_l42 x7.1 a1 a2) (x7.1, (0 : Int32))).bind fun x18 =>
  some (x18.1)
noncomputable def fX11_joins_j91 (σ : St) (a1 : Int32) (a2 : Int32) (b3 : Int32) (b4 : Int32) : Option ((St × Int32) ⊕ (St × Int32)) :=
  gd (inb (a2 + b3) 288) <|
  lt (ui σ 42 (a2 + b3).toNatClampNeg b4) fun σ7 =>
  some (.inl (σ7, (b3 + (1 : Int32))))
noncomputable def fX11_joins_j82 (σ : St) (a1 : Int32) (a2 : Int32) (ea3b : Int32) (b5 : Int32) (t0 : Int32) (t1 : Int32) : Option ((Int32 × Int32) ⊕ (Int32 × Int32)) :=
  some (.inl ((t1 ||| t0), (b5 + (1 : Int32))))
noncomputable def fX11_joins_l41 (σ : St) (a1 : Int32) (a2 : Int32) (ea3b : Int32) (x : (Int32 × Int32)) : Option ((Int32 × Int32) ⊕ (Int32 × Int32)) :=
  (if (24 : Int32) ≤ x.2 then
  some (.inr (x.1, x.2))
  else
  gd (inb (a2 + ea3b) 288) <|
  (fX11_has σ (gi σ 42 (a2 + ea3b).toNatClampNeg) x.2).bind fun v10 =>
  (if v10 = 0 then
  fX11_joins_j82 σ a1 a2 ea3b x.2 (0 : Int32) x.1
  else
  gd (inb ((a2 + (24 : Int32)) + x.2) 288) <|
  fX11_joins_j82 σ a1 a2 ea3b x.2 (gi σ 42 ((a2 + (24 : Int32)) + x.2).toNatClampNeg) x.1))
noncomputable def fX11_joins_l2 (σ : St) (a1 : Int32) (a2 : Int32) (x : (St × Int32)) : Option ((St × Int32) ⊕ (St × Int32)) :=
  (if (24 : Int32) ≤ x.2 then
  some (.inr (x.1, x.2))
  else
  gd (inb ((a2 + (24 : Int32)) + x.2) 288) <|
  gd (inb (a2 + x.2) 288) <|
  lt ((gi x.1 42 ((a2 + (24 : Int32)) + x.2).toNatClampNeg) ||| (gi x.1 42 (a2 + x.2).toNatClampNeg)) fun n4 =>
  (if a1 = (3 : Int32) then
  (loopF (fX11_joins_l41 x.1 a1 a2 x.2) ((0 : Int32), (0 : Int32))).bind fun x13 =>
  fX11_joins_j91 x.1 a1 a2 x.2 x13.1
  else
  fX11_joins_j91 x.1 a1 a2 x.2 n4))
noncomputable def fX11_joins (σ : St) (a1 : Int32) (a2 : Int32) : Option St :=
  (loopF (fX11_joins_l2 σ a1 a2) (σ, (0 : Int32))).bind fun x14 =>
  some (x14.1)
noncomputable def fX11_lays_j111 (σ : St) (a1 : Int32) (a2 : Int32) (ea3 : Int32) (b4 : Int32) (b5 : Int32) : Option ((St × Int32 × Int32) ⊕ (St × Int32 × Int32)) :=
  some (.inl (σ, b4, (b5 + (1 : Int32))))
noncomputable def fX11_lays_l19 (σ : St) (a1 : Int32) (a2 : Int32) (ea3 : Int32) (x : (St × Int32 × Int32)) : Option ((St × Int32 × Int32) ⊕ (St × Int32 × Int32)) :=
  gd (inb a1 6) <|
  (if (((12 : Int32) * a1) + (gi x.1 33 a1.toNatClampNeg)) ≤ x.2.2 then
  some (.inr (x.1, x.2.1, x.2.2))
  else
  gd (inb x.2.2 72) <|
  (if (3 : Int32) ≤ (gi x.1 34 x.2.2.toNatClampNeg) then
  gd (inb x.2.2 72) <|
  (if (gi x.1 34 x.2.2.toNatClampNeg) = (5 : Int32) then
  (fX11_closes x.1 (((24 : Int32) * x.2.1) - (24 : Int32)) ea3).bind fun v11 =>
  fX11_lays_j111 v11 a1 a2 ea3 x.2.1 x.2.2
  else
  gd (inb x.2.2 72) <|
  (fX11_joins x.1 (gi x.1 34 x.2.2.toNatClampNeg) (((24 : Int32) * x.2.1) - (48 : Int32))).bind fun v10 =>
  fX11_lays_j111 v10 a1 a2 ea3 (x.2.1 + (-1 : Int32)) x.2.2)
  else
  (fX11_begins x.1 x.2.2 ((24 : Int32) * x.2.1) ea3).bind fun v12 =>
  fX11_lays_j111 v12 a1 a2 ea3 (x.2.1 + (1 : Int32)) x.2.2))
noncomputable def fX11_lays (σ : St) (a1 : Int32) (a2 : Int32) : Option St :=
  (fX11_infers σ).bind fun v1 =>
  (fX11_reached v1 a2).bind fun v2 =>
  (loopF (fX11_lays_l19 v1 a1 a2 v2) (v1, (0 : Int32), ((12 : Int32) * a1))).bind fun x13 =>
  some (x13.1)
noncomputable def fX11_isAsked_j26 (σ : St) (a1 : Int32) (a2 : Int32) : Option Int32 :=
  some ((0 : Int32))
noncomputable def fX11_isAsked (σ : St) (a1 : Int32) (a2 : Int32) : Option Int32 :=
  (fX11_isIn σ a1 (0 : Int32) ((gi σ 0 38) - (1 : Int32))).bind fun v1 =>
  (if v1 = 0 then
  fX11_isAsked_j26 σ a1 a2
  else
  (fX11_isNode σ a2).bind fun v3 =>
  (if v3 = 0 then
  fX11_isAsked_j26 σ a1 a2
  else
  some ((1 : Int32))))
noncomputable def fX11_answer_j15 (σ : St) (a1 : Int32) (a2 : Int32) (t0 : Int32) : Option (Int32 × St) :=
  (fX11_fails σ t0).bind fun v3 =>
  (if v3.1 = 0 then
  (fX11_lays v3.2 a1 (0 : Int32)).bind fun v5 =>
  gd (inb a2 288) <|
  some ((gi v5 42 a2.toNatClampNeg), v5)
  else
  some ((0 : Int32), v3.2))
noncomputable def fX11_answer (σ : St) (a1 : Int32) (a2 : Int32) : Option (Int32 × St) :=
  (fX11_isAsked σ a1 a2).bind fun v1 =>
  (if v1 = 0 then
  fX11_answer_j15 σ a1 a2 (1 : Int32)
  else
  fX11_answer_j15 σ a1 a2 (0 : Int32))
noncomputable def fX11_answerAnew_j15 (σ : St) (a1 : Int32) (a2 : Int32) (t0 : Int32) : Option (Int32 × St) :=
  (fX11_fails σ t0).bind fun v3 =>
  (if v3.1 = 0 then
  (fX11_lays v3.2 a1 (0 : Int32)).bind fun v5 =>
  gd (inb a2 288) <|
  some ((gi v5 42 a2.toNatClampNeg), v5)
  else
  some ((0 : Int32), v3.2))
noncomputable def fX11_answerAnew (σ : St) (a1 : Int32) (a2 : Int32) : Option (Int32 × St) :=
  (fX11_isAsked σ a1 a2).bind fun v1 =>
  (if v1 = 0 then
  fX11_answerAnew_j15 σ a1 a2 (1 : Int32)
  else
  fX11_answerAnew_j15 σ a1 a2 (0 : Int32))
noncomputable def fX11_pairs_l38 (σ : St) (a1 : Int32) (x : (Int32 × Int32)) : Option ((Int32 × Int32) ⊕ (Int32 × Int32)) :=
  (if (24 : Int32) ≤ x.2 then
  some (.inr (x.1, x.2))
  else
  gd (inb x.2 288) <|
  (fX11_size σ (gi σ 42 x.2.toNatClampNeg)).bind fun v8 =>
  some (.inl ((x.1 + v8), (x.2 + (1 : Int32)))))
noncomputable def fX11_pairs_j20 (σ : St) (a1 : Int32) (t0 : Int32) : Option (Int32 × St) :=
  (fX11_fails σ t0).bind fun v3 =>
  (if v3.1 = 0 then
  (fX11_lays v3.2 a1 (0 : Int32)).bind fun v5 =>
  (loopF (fX11_pairs_l38 v5 a1) ((0 : Int32), (0 : Int32))).bind fun x9 =>
  some (x9.1, v5)
  else
  some ((0 : Int32), v3.2))
noncomputable def fX11_pairs (σ : St) (a1 : Int32) : Option (Int32 × St) :=
  (fX11_isIn σ a1 (0 : Int32) ((gi σ 0 38) - (1 : Int32))).bind fun v1 =>
  (if v1 = 0 then
  fX11_pairs_j20 σ a1 (1 : Int32)
  else
  fX11_pairs_j20 σ a1 (0 : Int32))
noncomputable def fX11_isWhole_j15 (σ : St) (a1 : Int32) (a2 : Int32) (t0 : Int32) : Option (Int32 × St) :=
  (fX11_fails σ t0).bind fun v3 =>
  (if v3.1 = 0 then
  (fX11_lays v3.2 a1 (0 : Int32)).bind fun v5 =>
  gd (inb a2 288) <|
  lt (gi v5 42 a2.toNatClampNeg) fun n7 =>
  (fX11_lays v5 a1 (1 : Int32)).bind fun v8 =>
  gd (inb a2 288) <|
  (if n7 = (gi v8 42 a2.toNatClampNeg) then
  some ((1 : Int32), v8)
  else
  some ((0 : Int32), v8))
  else
  some ((0 : Int32), v3.2))
noncomputable def fX11_isWhole (σ : St) (a1 : Int32) (a2 : Int32) : Option (Int32 × St) :=
  (fX11_isAsked σ a1 a2).bind fun v1 =>
  (if v1 = 0 then
  fX11_isWhole_j15 σ a1 a2 (1 : Int32)
  else
  fX11_isWhole_j15 σ a1 a2 (0 : Int32))
noncomputable def fX11_comes_j101 (σ : St) (a1 : Int32) (a2 : Int32) (ea3b : Int32) (ea4b : Int32) (ea5b : Int32) (b7 : Int32) (t0 : Int32) (t1 : Int32) : Option ((Int32 × Int32) ⊕ (Int32 × Int32)) :=
  some (.inl ((t1 ||| t0), (b7 + (1 : Int32))))
noncomputable def fX11_comes_j100 (σ : St) (a1 : Int32) (a2 : Int32) (ea3b : Int32) (ea4b : Int32) (ea5b : Int32) (b7 : Int32) (t0 : Int32) : Option ((Int32 × Int32) ⊕ (Int32 × Int32)) :=
  fX11_comes_j101 σ a1 a2 ea3b ea4b ea5b b7 (0 : Int32) t0
noncomputable def fX11_comes_l39 (σ : St) (a1 : Int32) (a2 : Int32) (ea3b : Int32) (ea4b : Int32) (ea5b : Int32) (x : (Int32 × Int32)) : Option ((Int32 × Int32) ⊕ (Int32 × Int32)) :=
  (if (gi σ 0 15) ≤ x.2 then
  some (.inr (x.1, x.2))
  else
  (fX11_isEdge σ x.2).bind fun v6 =>
  (if v6 = 0 then
  fX11_comes_j100 σ a1 a2 ea3b ea4b ea5b x.2 x.1
  else
  gd (inb x.2 60) <|
  (fX11_has σ ea4b (gi σ 13 x.2.toNatClampNeg)).bind fun v9 =>
  (if v9 = 0 then
  fX11_comes_j100 σ a1 a2 ea3b ea4b ea5b x.2 x.1
  else
  gd (inb x.2 60) <|
  (fX11_has σ ea3b (gi σ 14 x.2.toNatClampNeg)).bind fun v12 =>
  (if v12 = 0 then
  fX11_comes_j100 σ a1 a2 ea3b ea4b ea5b x.2 x.1
  else
  gd (inb x.2 60) <|
  fX11_comes_j101 σ a1 a2 ea3b ea4b ea5b x.2 ((1 : Int32) <<< ((gi σ 14 x.2.toNatClampNeg) &&& 31)) x.1))))
noncomputable def fX11_comes_l26 (σ : St) (a1 : Int32) (a2 : Int32) (ea3 : Int32) (x : (Int32 × Int32)) : Option ((Int32 × Int32) ⊕ (Int32 × Int32)) :=
  (if a2 ≤ x.2 then
  some (.inr (x.1, x.2))
  else
  (loopF (fX11_comes_l39 σ a1 a2 ea3 x.1 x.2) (x.1, (0 : Int32))).bind fun x15 =>
  some (.inl (x15.1, (x.2 + (1 : Int32)))))
noncomputable def fX11_comes_j21 (σ : St) (a1 : Int32) (a2 : Int32) (b3 : Int32) (t0 : Int32) : Option Int32 :=
  (loopF (fX11_comes_l26 σ a1 a2 b3) (t0, (0 : Int32))).bind fun x16 =>
  some (x16.1)
noncomputable def fX11_comes (σ : St) (a1 : Int32) (a2 : Int32) : Option Int32 :=
  (fX11_reached σ (0 : Int32)).bind fun v1 =>
  (fX11_has σ v1 a1).bind fun v2 =>
  (if v2 = 0 then
  fX11_comes_j21 σ a1 a2 v1 (0 : Int32)
  else
  fX11_comes_j21 σ a1 a2 v1 ((1 : Int32) <<< (a1 &&& 31)))
noncomputable def fX11_walk_j28 (σ : St) (a1 : Int32) (a2 : Int32) (t0 : Int32) : Option (Int32 × St) :=
  (fX11_fails σ t0).bind fun v5 =>
  (if v5.1 = 0 then
  (fX11_comes v5.2 a1 a2).bind fun v7 =>
  some (v7, v5.2)
  else
  some ((0 : Int32), v5.2))
noncomputable def fX11_walk (σ : St) (a1 : Int32) (a2 : Int32) : Option (Int32 × St) :=
  (fX11_isNode σ a1).bind fun v1 =>
  (if v1 = 0 then
  fX11_walk_j28 σ a1 a2 (1 : Int32)
  else
  (fX11_isIn σ a2 (0 : Int32) (30 : Int32)).bind fun v3 =>
  (if v3 = 0 then
  fX11_walk_j28 σ a1 a2 (2 : Int32)
  else
  fX11_walk_j28 σ a1 a2 (0 : Int32)))
noncomputable def fX11_crossings_j125 (σ : St) (a1 : Int32) (a2 : Int32) (ea3 : Int32) (b5 : Int32) (t0 : Int32) (t1 : Int32) : Option ((Int32 × Int32) ⊕ (Int32 × Int32)) :=
  some (.inl ((t1 + t0), (b5 + (1 : Int32))))
noncomputable def fX11_crossings_j124 (σ : St) (a1 : Int32) (a2 : Int32) (ea3 : Int32) (b5 : Int32) (t0 : Int32) : Option ((Int32 × Int32) ⊕ (Int32 × Int32)) :=
  fX11_crossings_j125 σ a1 a2 ea3 b5 (0 : Int32) t0
noncomputable def fX11_crossings_l59 (σ : St) (a1 : Int32) (a2 : Int32) (ea3 : Int32) (x : (Int32 × Int32)) : Option ((Int32 × Int32) ⊕ (Int32 × Int32)) :=
  (if (gi σ 0 15) ≤ x.2 then
  some (.inr (x.1, x.2))
  else
  (fX11_isEdge σ x.2).bind fun v10 =>
  (if v10 = 0 then
  fX11_crossings_j124 σ a1 a2 ea3 x.2 x.1
  else
  gd (inb x.2 60) <|
  (fX11_has σ ea3 (gi σ 13 x.2.toNatClampNeg)).bind fun v13 =>
  (if v13 = 0 then
  fX11_crossings_j124 σ a1 a2 ea3 x.2 x.1
  else
  gd (inb x.2 60) <|
  gd (inb (gi σ 13 x.2.toNatClampNeg) 24) <|
  gd (inb x.2 60) <|
  gd (inb (gi σ 14 x.2.toNatClampNeg) 24) <|
  (if (gi σ 3 (gi σ 13 x.2.toNatClampNeg).toNatClampNeg) = (gi σ 3 (gi σ 14 x.2.toNatClampNeg).toNatClampNeg) then
  fX11_crossings_j124 σ a1 a2 ea3 x.2 x.1
  else
  fX11_crossings_j125 σ a1 a2 ea3 x.2 (1 : Int32) x.1))))
noncomputable def fX11_crossings_j52 (σ : St) (a1 : Int32) (a2 : Int32) (t0 : Int32) : Option (Int32 × St) :=
  (loopF (fX11_crossings_l59 σ a1 a2 t0) ((0 : Int32), (0 : Int32))).bind fun x20 =>
  some (x20.1, σ)
noncomputable def fX11_crossings_j28 (σ : St) (a1 : Int32) (a2 : Int32) (t0 : Int32) : Option (Int32 × St) :=
  (fX11_fails σ t0).bind fun v5 =>
  (if v5.1 = 0 then
  (if a2 = 0 then
  fX11_crossings_j52 v5.2 a1 a2 (0 : Int32)
  else
  (fX11_comes v5.2 a1 (a2 - (1 : Int32))).bind fun v8 =>
  fX11_crossings_j52 v5.2 a1 a2 v8)
  else
  some ((0 : Int32), v5.2))
noncomputable def fX11_crossings (σ : St) (a1 : Int32) (a2 : Int32) : Option (Int32 × St) :=
  (fX11_isNode σ a1).bind fun v1 =>
  (if v1 = 0 then
  fX11_crossings_j28 σ a1 a2 (1 : Int32)
  else
  (fX11_isIn σ a2 (0 : Int32) (30 : Int32)).bind fun v3 =>
  (if v3 = 0 then
  fX11_crossings_j28 σ a1 a2 (2 : Int32)
  else
  fX11_crossings_j28 σ a1 a2 (0 : Int32)))
noncomputable def fX11_gives (σ : St) (a1 : Int32) (a2 : Int32) : Option St :=
  gd (inb a1 24) <|
  (if (gi σ 8 a1.toNatClampNeg) = 0 then
  some (σ)
  else
  gd (inb a1 24) <|
  gd (inb a2 288) <|
  (if (gi σ 42 a2.toNatClampNeg) ≤ (gi σ 7 a1.toNatClampNeg) then
  some (σ)
  else
  gd (inb a1 24) <|
  gd (inb a2 288) <|
  lt (ui σ 42 a2.toNatClampNeg (gi σ 7 a1.toNatClampNeg)) fun σ8 =>
  gd (inb a2 24) <|
  lt (ui σ8 9 a2.toNatClampNeg (1 : Int32)) fun σ10 =>
  some (σ10)))
noncomputable def fX11_rounds_l2 (σ : St) (x : (St × Int32)) : Option ((St × Int32) ⊕ (St × Int32)) :=
  (if (gi x.1 0 1) ≤ x.2 then
  some (.inr (x.1, x.2))
  else
  gd (inb x.2 24) <|
  lt (ui x.1 9 x.2.toNatClampNeg (0 : Int32)) fun σ3 =>
  some (.inl (σ3, (x.2 + (1 : Int32)))))
noncomputable def fX11_rounds_l25 (σ : St) (x : (St × Int32)) : Option ((St × Int32) ⊕ (St × Int32)) :=
  (if (gi x.1 0 1) ≤ x.2 then
  some (.inr (x.1, x.2))
  else
  gd (inb x.2 24) <|
  gd (inb x.2 288) <|
  lt (ui x.1 42 x.2.toNatClampNeg (gi x.1 7 x.2.toNatClampNeg)) fun σ8 =>
  some (.inl (σ8, (x.2 + (1 : Int32)))))
noncomputable def fX11_rounds_j101 (σ : St) (b1 : Int32) : Option ((St × Int32) ⊕ (St × Int32)) :=
  some (.inl (σ, (b1 + (1 : Int32))))
noncomputable def fX11_rounds_l53 (σ : St) (x : (St × Int32)) : Option ((St × Int32) ⊕ (St × Int32)) :=
  (if (gi x.1 0 15) ≤ x.2 then
  some (.inr (x.1, x.2))
  else
  (fX11_isEdge x.1 x.2).bind fun v11 =>
  (if v11 = 0 then
  fX11_rounds_j101 x.1 x.2
  else
  gd (inb x.2 60) <|
  gd (inb x.2 60) <|
  (fX11_gives x.1 (gi x.1 13 x.2.toNatClampNeg) (gi x.1 14 x.2.toNatClampNeg)).bind fun v15 =>
  gd (inb x.2 60) <|
  gd (inb x.2 60) <|
  (fX11_gives v15 (gi v15 14 x.2.toNatClampNeg) (gi v15 13 x.2.toNatClampNeg)).bind fun v18 =>
  fX11_rounds_j101 v18 x.2))
noncomputable def fX11_rounds_l109 (σ : St) (x : (St × Int32)) : Option ((St × Int32) ⊕ (St × Int32)) :=
  (if (gi x.1 0 1) ≤ x.2 then
  some (.inr (x.1, x.2))
  else
  gd (inb x.2 24) <|
  gd (inb x.2 24) <|
  gd ((gi x.1 9 x.2.toNatClampNeg) &&& 1 = (gi x.1 9 x.2.toNatClampNeg)) <|
  lt (ui x.1 8 x.2.toNatClampNeg (gi x.1 9 x.2.toNatClampNeg)) fun σ24 =>
  gd (inb x.2 288) <|
  gd (inb x.2 24) <|
  lt (ui σ24 7 x.2.toNatClampNeg (gi σ24 42 x.2.toNatClampNeg)) fun σ27 =>
  some (.inl (σ27, (x.2 + (1 : Int32)))))
noncomputable def fX11_rounds (σ : St) : Option St :=
  (loopF (fX11_rounds_l2 σ) (σ, (0 : Int32))).bind fun x4 =>
  (loopF (fX11_rounds_l25 x4.1) (x4.1, (0 : Int32))).bind fun x9 =>
  (loopF (fX11_rounds_l53 x9.1) (x9.1, (0 : Int32))).bind fun x19 =>
  (loopF (fX11_rounds_l109 x19.1) (x19.1, (0 : Int32))).bind fun x28 =>
  some (x28.1)
noncomputable def fX11_round_l26 (σ : St) (a1 : Int32) (x : (St × Int32)) : Option ((St × Int32) ⊕ (St × Int32)) :=
  (if a1 ≤ x.2 then
  some (.inr (x.1, x.2))
  else
  (fX11_rounds x.1).bind fun v6 =>
  some (.inl (v6, (x.2 + (1 : Int32)))))
noncomputable def fX11_round_j68 (σ : St) (a1 : Int32) (b3 : Int32) (t0 : Int32) (t1 : Int32) : Option ((Int32 × Int32) ⊕ (Int32 × Int32)) :=
  some (.inl ((t1 + t0), (b3 + (1 : Int32))))
noncomputable def fX11_round_l45 (σ : St) (a1 : Int32) (x : (Int32 × Int32)) : Option ((Int32 × Int32) ⊕ (Int32 × Int32)) :=
  (if (gi σ 0 1) ≤ x.2 then
  some (.inr (x.1, x.2))
  else
  gd (inb x.2 24) <|
  (if (gi σ 8 x.2.toNatClampNeg) = 0 then
  fX11_round_j68 σ a1 x.2 (0 : Int32) x.1
  else
  fX11_round_j68 σ a1 x.2 (1 : Int32) x.1))
noncomputable def fX11_round_j16 (σ : St) (a1 : Int32) (t0 : Int32) : Option (Int32 × St) :=
  (fX11_fails σ t0).bind fun v3 =>
  (if v3.1 = 0 then
  (loopF (fX11_round_l26 v3.2 a1) (v3.2, (0 : Int32))).bind fun x7 =>
  (loopF (fX11_round_l45 x7.1 a1) ((0 : Int32), (0 : Int32))).bind fun x11 =>
  some (x11.1, x7.1)
  else
  some ((0 : Int32), v3.2))
noncomputable def fX11_round (σ : St) (a1 : Int32) : Option (Int32 × St) :=
  (fX11_isIn σ a1 (1 : Int32) (30 : Int32)).bind fun v1 =>
  (if v1 = 0 then
  fX11_round_j16 σ a1 (1 : Int32)
  else
  fX11_round_j16 σ a1 (0 : Int32))
noncomputable def fX11_mark_j14 (σ : St) (a1 : Int32) (t0 : Int32) : Option (Int32 × St) :=
  (fX11_fails σ t0).bind fun v3 =>
  (if v3.1 = 0 then
  gd (inb a1 24) <|
  some ((gi v3.2 7 a1.toNatClampNeg), v3.2)
  else
  some ((0 : Int32), v3.2))
noncomputable def fX11_mark (σ : St) (a1 : Int32) : Option (Int32 × St) :=
  (fX11_isNode σ a1).bind fun v1 =>
  (if v1 = 0 then
  fX11_mark_j14 σ a1 (1 : Int32)
  else
  fX11_mark_j14 σ a1 (0 : Int32))
noncomputable def fX11_least_j119 (σ : St) (a1 : Int32) (ea3b : Int32) (b4 : Int32) (t0 : Int32) (t1 : Int32) : Option ((Int32 × Int32) ⊕ (Int32 × Int32)) :=
  some (.inl ((t1 ||| t0), (b4 + (1 : Int32))))
noncomputable def fX11_least_j88 (σ : St) (a1 : Int32) (ea3b : Int32) (b2 : Int32) (b4 : Int32) (t0 : Int32) : Option ((Int32 × Int32) ⊕ (Int32 × Int32)) :=
  (if t0 = 0 then
  fX11_least_j119 σ a1 ea3b b4 (0 : Int32) b2
  else
  gd (inb b4 60) <|
  gd (inb b4 60) <|
  fX11_least_j119 σ a1 ea3b b4 (((1 : Int32) <<< ((gi σ 13 b4.toNatClampNeg) &&& 31)) ||| ((1 : Int32) <<< ((gi σ 14 b4.toNatClampNeg) &&& 31))) b2)
noncomputable def fX11_least_j87 (σ : St) (a1 : Int32) (ea3b : Int32) (b2 : Int32) (b4 : Int32) : Option ((Int32 × Int32) ⊕ (Int32 × Int32)) :=
  fX11_least_j88 σ a1 ea3b b2 b4 (0 : Int32)
noncomputable def fX11_least_j83 (σ : St) (a1 : Int32) (ea3b : Int32) (b2 : Int32) (b4 : Int32) : Option ((Int32 × Int32) ⊕ (Int32 × Int32)) :=
  fX11_least_j88 σ a1 ea3b b2 b4 (1 : Int32)
noncomputable def fX11_least_l37 (σ : St) (a1 : Int32) (ea3b : Int32) (x : (Int32 × Int32)) : Option ((Int32 × Int32) ⊕ (Int32 × Int32)) :=
  (if (gi σ 0 15) ≤ x.2 then
  some (.inr (x.1, x.2))
  else
  (fX11_isEdge σ x.2).bind fun v8 =>
  (if v8 = 0 then
  fX11_least_j87 σ a1 ea3b x.1 x.2
  else
  gd (inb x.2 60) <|
  (fX11_has σ x.1 (gi σ 13 x.2.toNatClampNeg)).bind fun v14 =>
  (if v14 = 0 then
  gd (inb x.2 60) <|
  (fX11_has σ x.1 (gi σ 14 x.2.toNatClampNeg)).bind fun v17 =>
  (if v17 = 0 then
  fX11_least_j87 σ a1 ea3b x.1 x.2
  else
  fX11_least_j83 σ a1 ea3b x.1 x.2)
  else
  fX11_least_j83 σ a1 ea3b x.1 x.2)))
noncomputable def fX11_least_l28 (σ : St) (a1 : Int32) (x : (Int32 × Int32)) : Option ((Int32 × Int32) ⊕ (Int32 × Int32)) :=
  (if (24 : Int32) ≤ x.2 then
  some (.inr (x.1, x.2))
  else
  (loopF (fX11_least_l37 σ a1 x.2) (x.1, (0 : Int32))).bind fun x19 =>
  some (.inl (x19.1, (x.2 + (1 : Int32)))))
noncomputable def fX11_least_l135 (σ : St) (a1 : Int32) (ea2 : Int32) (x : Int32) : Option (Int32 ⊕ Int32) :=
  (fX11_has σ ea2 x).bind fun v21 =>
  (if v21 = 0 then
  some (.inl ((x + (1 : Int32))))
  else
  some (.inr (x)))
noncomputable def fX11_least_j14 (σ : St) (a1 : Int32) (t0 : Int32) : Option (Int32 × St) :=
  (fX11_fails σ t0).bind fun v3 =>
  (if v3.1 = 0 then
  lt ((1 : Int32) <<< (a1 &&& 31)) fun n5 =>
  (loopF (fX11_least_l28 v3.2 a1) (n5, (0 : Int32))).bind fun x20 =>
  (loopF (fX11_least_l135 v3.2 a1 x20.1) ((0 : Int32))).bind fun x23 =>
  some (x23, v3.2)
  else
  some ((0 : Int32), v3.2))
noncomputable def fX11_least (σ : St) (a1 : Int32) : Option (Int32 × St) :=
  (fX11_isNode σ a1).bind fun v1 =>
  (if v1 = 0 then
  fX11_least_j14 σ a1 (1 : Int32)
  else
  fX11_least_j14 σ a1 (0 : Int32))
