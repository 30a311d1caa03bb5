noncomputable def fX7_isThereN_j27 (σ : St) (a1 : Int32) : Option Int32 :=
  some ((0 : Int32))
noncomputable def fX7_isThereN (σ : St) (a1 : Int32) : Option Int32 :=
  (if a1 < 0 then
  fX7_isThereN_j27 σ a1
  else
  (if (gi σ 1 2) ≤ a1 then
  fX7_isThereN_j27 σ a1
  else
  gd (inb a1 60) <|
  (if (gi σ 3 a1.toNatClampNeg) = (2147483647 : Int32) then
  some ((1 : Int32))
  else
  fX7_isThereN_j27 σ a1)))
noncomputable def fX7_isThereE_j27 (σ : St) (a1 : Int32) : Option Int32 :=
  some ((0 : Int32))
noncomputable def fX7_isThereE (σ : St) (a1 : Int32) : Option Int32 :=
  (if a1 < 0 then
  fX7_isThereE_j27 σ a1
  else
  (if (gi σ 10 2) ≤ a1 then
  fX7_isThereE_j27 σ a1
  else
  gd (inb a1 60) <|
  (if (gi σ 12 a1.toNatClampNeg) = (2147483647 : Int32) then
  some ((1 : Int32))
  else
  fX7_isThereE_j27 σ a1)))
noncomputable def fX7_wasThereN_j36 (σ : St) (a1 : Int32) (a2 : Int32) : Option Int32 :=
  some ((0 : Int32))
noncomputable def fX7_wasThereN (σ : St) (a1 : Int32) (a2 : Int32) : Option Int32 :=
  (if a1 < 0 then
  fX7_wasThereN_j36 σ a1 a2
  else
  (if (gi σ 1 2) ≤ a1 then
  fX7_wasThereN_j36 σ a1 a2
  else
  gd (inb a1 60) <|
  (if a2 < (gi σ 2 a1.toNatClampNeg) then
  fX7_wasThereN_j36 σ a1 a2
  else
  gd (inb a1 60) <|
  (if (gi σ 3 a1.toNatClampNeg) ≤ a2 then
  fX7_wasThereN_j36 σ a1 a2
  else
  some ((1 : Int32))))))
noncomputable def fX7_wasThereE_j36 (σ : St) (a1 : Int32) (a2 : Int32) : Option Int32 :=
  some ((0 : Int32))
noncomputable def fX7_wasThereE (σ : St) (a1 : Int32) (a2 : Int32) : Option Int32 :=
  (if a1 < 0 then
  fX7_wasThereE_j36 σ a1 a2
  else
  (if (gi σ 10 2) ≤ a1 then
  fX7_wasThereE_j36 σ a1 a2
  else
  gd (inb a1 60) <|
  (if a2 < (gi σ 11 a1.toNatClampNeg) then
  fX7_wasThereE_j36 σ a1 a2
  else
  gd (inb a1 60) <|
  (if (gi σ 12 a1.toNatClampNeg) ≤ a2 then
  fX7_wasThereE_j36 σ a1 a2
  else
  some ((1 : Int32))))))
noncomputable def fX7_comeN (σ : St) (a1 : Int32) : Option (Int32 × St) :=
  lt (ui σ 1 2 ((gi σ 1 2) + (1 : Int32))) fun σ1 =>
  gd (inb (gi σ 1 2) 60) <|
  lt (ui σ1 2 (gi σ 1 2).toNatClampNeg a1) fun σ3 =>
  gd (inb (gi σ 1 2) 60) <|
  lt (ui σ3 3 (gi σ 1 2).toNatClampNeg (2147483647 : Int32)) fun σ5 =>
  some ((gi σ 1 2), σ5)
noncomputable def fX7_comeE (σ : St) (a1 : Int32) : Option (Int32 × St) :=
  lt (ui σ 10 2 ((gi σ 10 2) + (1 : Int32))) fun σ1 =>
  gd (inb (gi σ 10 2) 60) <|
  lt (ui σ1 11 (gi σ 10 2).toNatClampNeg a1) fun σ3 =>
  gd (inb (gi σ 10 2) 60) <|
  lt (ui σ3 12 (gi σ 10 2).toNatClampNeg (2147483647 : Int32)) fun σ5 =>
  some ((gi σ 10 2), σ5)
noncomputable def fX7_endN (σ : St) (a1 : Int32) (a2 : Int32) : Option St :=
  gd (inb a1 60) <|
  lt (ui σ 3 a1.toNatClampNeg a2) fun σ2 =>
  some (σ2)
noncomputable def fX7_endE (σ : St) (a1 : Int32) (a2 : Int32) : Option St :=
  gd (inb a1 60) <|
  lt (ui σ 12 a1.toNatClampNeg a2) fun σ2 =>
  some (σ2)
noncomputable def fX7_countAsOfN_j24 (σ : St) (a1 : Int32) (b2 : Int32) (b3 : Int32) : Option ((Int32 × Int32) ⊕ (Int32 × Int32)) :=
  some (.inl (b2, (b3 + (1 : Int32))))
noncomputable def fX7_countAsOfN_l4 (σ : St) (a1 : Int32) (x : (Int32 × Int32)) : Option ((Int32 × Int32) ⊕ (Int32 × Int32)) :=
  (if (gi σ 1 2) ≤ x.2 then
  some (.inr (x.1, x.2))
  else
  (fX7_wasThereN σ x.2 a1).bind fun v2 =>
  (if v2 = 0 then
  fX7_countAsOfN_j24 σ a1 x.1 x.2
  else
  fX7_countAsOfN_j24 σ a1 (x.1 + (1 : Int32)) x.2))
noncomputable def fX7_countAsOfN (σ : St) (a1 : Int32) : Option Int32 :=
  (loopF (fX7_countAsOfN_l4 σ a1) ((0 : Int32), (0 : Int32))).bind fun x4 =>
  some (x4.1)
noncomputable def fX7_countAsOfE_j24 (σ : St) (a1 : Int32) (b2 : Int32) (b3 : Int32) : Option ((Int32 × Int32) ⊕ (Int32 × Int32)) :=
  some (.inl (b2, (b3 + (1 : Int32))))
noncomputable def fX7_countAsOfE_l4 (σ : St) (a1 : Int32) (x : (Int32 × Int32)) : Option ((Int32 × Int32) ⊕ (Int32 × Int32)) :=
  (if (gi σ 10 2) ≤ x.2 then
  some (.inr (x.1, x.2))
  else
  (fX7_wasThereE σ x.2 a1).bind fun v2 =>
  (if v2 = 0 then
  fX7_countAsOfE_j24 σ a1 x.1 x.2
  else
  fX7_countAsOfE_j24 σ a1 (x.1 + (1 : Int32)) x.2))
noncomputable def fX7_countAsOfE (σ : St) (a1 : Int32) : Option Int32 :=
  (loopF (fX7_countAsOfE_l4 σ a1) ((0 : Int32), (0 : Int32))).bind fun x4 =>
  some (x4.1)
noncomputable def fX10_bit (σ : St) (a0 : Int32) : Option Int32 :=
  some (((1 : Int32) <<< (a0 &&& 31)))
noncomputable def fX6_put (σ : St) (a1 : Int32) (a2 : Int32) (a3 : Int32) : Option St :=
  gd (inb a1 24) <|
  lt (ui σ 5 a1.toNatClampNeg a2) fun σ2 =>
  gd (inb a1 24) <|
  lt (ui σ2 6 a1.toNatClampNeg a3) fun σ4 =>
  (if (512 : Int32) ≤ (gi σ4 1 9) then
  some (σ4)
  else
  gd (inb (gi σ4 1 9) 512) <|
  lt (ui σ4 7 (gi σ4 1 9).toNatClampNeg a1) fun σ7 =>
  gd (inb (gi σ7 1 9) 512) <|
  lt (ui σ7 8 (gi σ7 1 9).toNatClampNeg a2) fun σ9 =>
  gd (inb (gi σ9 1 9) 512) <|
  lt (ui σ9 9 (gi σ9 1 9).toNatClampNeg a3) fun σ11 =>
  lt (ui σ11 1 9 ((gi σ11 1 9) + (1 : Int32))) fun σ12 =>
  some (σ12))
noncomputable def fX6_add (σ : St) (a1 : Int32) (a2 : Int32) (a3 : Int32) : Option (Int32 × St) :=
  (fX7_comeN σ a3).bind fun v1 =>
  gd (inb v1.1 24) <|
  lt (ui v1.2 4 v1.1.toNatClampNeg a1) fun σ3 =>
  (fX10_bit σ3 v1.1).bind fun v4 =>
  lt (ui σ3 1 10 ((gi σ3 1 10) ||| v4)) fun σ5 =>
  (fX6_put σ5 v1.1 a2 a3).bind fun v6 =>
  some (v1.1, v6)
noncomputable def fX6_leave (σ : St) (a1 : Int32) (a2 : Int32) : Option St :=
  (fX7_endN σ a1 a2).bind fun v1 =>
  gd (inb a1 24) <|
  lt (ui v1 6 a1.toNatClampNeg a2) fun σ3 =>
  (fX10_bit σ3 a1).bind fun v4 =>
  lt (ui σ3 1 10 ((gi σ3 1 10) &&& (v4 ^^^ (-1 : Int32)))) fun σ5 =>
  some (σ5)
noncomputable def fX6_valueAsOf_j38 (σ : St) (a1 : Int32) (a2 : Int32) (b3 : Int32) : Option (Int32 ⊕ (Int32 ⊕ Int32)) :=
  some (.inl ((b3 + (-1 : Int32))))
noncomputable def fX6_valueAsOf_l7 (σ : St) (a1 : Int32) (a2 : Int32) (x : Int32) : Option (Int32 ⊕ (Int32 ⊕ Int32)) :=
  (if x < 0 then
  some (.inr (.inl (x)))
  else
  gd (inb x 512) <|
  (if (gi σ 7 x.toNatClampNeg) = a1 then
  gd (inb x 512) <|
  (if a2 < (gi σ 9 x.toNatClampNeg) then
  fX6_valueAsOf_j38 σ a1 a2 x
  else
  gd (inb x 512) <|
  some (.inr (.inr ((gi σ 8 x.toNatClampNeg)))))
  else
  fX6_valueAsOf_j38 σ a1 a2 x))
noncomputable def fX6_valueAsOf (σ : St) (a1 : Int32) (a2 : Int32) : Option Int32 :=
  lt ((gi σ 1 9) - (1 : Int32)) fun n1 =>
  (loopF (fX6_valueAsOf_l7 σ a1 a2) (n1)).bind fun x8 => Sum.elim (fun x9 =>
  gd (inb a1 24) <|
  some ((gi σ 5 a1.toNatClampNeg))) (fun r10 => some (r10)) x8
noncomputable def fX6_labelled_j37 (σ : St) (a1 : Int32) (b2 : Int32) (b3 : Int32) : Option ((Int32 × Int32) ⊕ (Int32 × Int32)) :=
  some (.inl (b2, (b3 + (1 : Int32))))
noncomputable def fX6_labelled_l4 (σ : St) (a1 : Int32) (x : (Int32 × Int32)) : Option ((Int32 × Int32) ⊕ (Int32 × Int32)) :=
  (if (gi σ 1 2) ≤ x.2 then
  some (.inr (x.1, x.2))
  else
  (fX7_isThereN σ x.2).bind fun v2 =>
  (if v2 = 0 then
  fX6_labelled_j37 σ a1 x.1 x.2
  else
  gd (inb x.2 24) <|
  (if (gi σ 4 x.2.toNatClampNeg) = a1 then
  (fX10_bit σ x.2).bind fun v6 =>
  fX6_labelled_j37 σ a1 (x.1 ||| v6) x.2
  else
  fX6_labelled_j37 σ a1 x.1 x.2)))
noncomputable def fX6_labelled (σ : St) (a1 : Int32) : Option Int32 :=
  (loopF (fX6_labelled_l4 σ a1) ((0 : Int32), (0 : Int32))).bind fun x7 =>
  some (x7.1)
noncomputable def fX0_add (σ : St) (a1 : Int32) (a2 : Int32) (a3 : Int32) (a4 : Int32) : Option (Int32 × St) :=
  (fX7_comeE σ a4).bind fun v1 =>
  gd (inb v1.1 60) <|
  lt (ui v1.2 13 v1.1.toNatClampNeg a1) fun σ3 =>
  gd (inb v1.1 60) <|
  lt (ui σ3 14 v1.1.toNatClampNeg a2) fun σ5 =>
  gd (inb v1.1 60) <|
  lt (ui σ5 15 v1.1.toNatClampNeg a3) fun σ7 =>
  some (v1.1, σ7)
noncomputable def fX0_countLike_j60 (σ : St) (a1 : Int32) (a2 : Int32) (a3 : Int32) (b4 : Int32) (b5 : Int32) : Option ((Int32 × Int32) ⊕ (Int32 × Int32)) :=
  some (.inl (b4, (b5 + (1 : Int32))))
noncomputable def fX0_countLike_l6 (σ : St) (a1 : Int32) (a2 : Int32) (a3 : Int32) (x : (Int32 × Int32)) : Option ((Int32 × Int32) ⊕ (Int32 × Int32)) :=
  (if (gi σ 10 2) ≤ x.2 then
  some (.inr (x.1, x.2))
  else
  (fX7_isThereE σ x.2).bind fun v2 =>
  (if v2 = 0 then
  fX0_countLike_j60 σ a1 a2 a3 x.1 x.2
  else
  gd (inb x.2 60) <|
  (if (gi σ 13 x.2.toNatClampNeg) = a1 then
  gd (inb x.2 60) <|
  (if (gi σ 14 x.2.toNatClampNeg) = a2 then
  gd (inb x.2 60) <|
  (if (gi σ 15 x.2.toNatClampNeg) = a3 then
  fX0_countLike_j60 σ a1 a2 a3 (x.1 + (1 : Int32)) x.2
  else
  fX0_countLike_j60 σ a1 a2 a3 x.1 x.2)
  else
  fX0_countLike_j60 σ a1 a2 a3 x.1 x.2)
  else
  fX0_countLike_j60 σ a1 a2 a3 x.1 x.2)))
noncomputable def fX0_countLike (σ : St) (a1 : Int32) (a2 : Int32) (a3 : Int32) : Option Int32 :=
  (loopF (fX0_countLike_l6 σ a1 a2 a3) ((0 : Int32), (0 : Int32))).bind fun x10 =>
  some (x10.1)
noncomputable def fX10_has (σ : St) (a0 : Int32) (a1 : Int32) : Option Int32 :=
  (if ((ush a0 a1) &&& (1 : Int32)) = 0 then
  some ((0 : Int32))
  else
  some ((1 : Int32)))
noncomputable def fX0_onward_j45 (σ : St) (a1 : Int32) (b2 : Int32) (b3 : Int32) : Option ((Int32 × Int32) ⊕ (Int32 × Int32)) :=
  some (.inl (b2, (b3 + (1 : Int32))))
noncomputable def fX0_onward_l4 (σ : St) (a1 : Int32) (x : (Int32 × Int32)) : Option ((Int32 × Int32) ⊕ (Int32 × Int32)) :=
  (if (gi σ 10 2) ≤ x.2 then
  some (.inr (x.1, x.2))
  else
  (fX7_isThereE σ x.2).bind fun v2 =>
  (if v2 = 0 then
  fX0_onward_j45 σ a1 x.1 x.2
  else
  gd (inb x.2 60) <|
  (fX10_has σ a1 (gi σ 13 x.2.toNatClampNeg)).bind fun v5 =>
  (if v5 = 0 then
  fX0_onward_j45 σ a1 x.1 x.2
  else
  gd (inb x.2 60) <|
  (fX10_bit σ (gi σ 15 x.2.toNatClampNeg)).bind fun v8 =>
  fX0_onward_j45 σ a1 (x.1 ||| v8) x.2)))
noncomputable def fX0_onward (σ : St) (a1 : Int32) : Option Int32 :=
  (loopF (fX0_onward_l4 σ a1) ((0 : Int32), (0 : Int32))).bind fun x9 =>
  some (x9.1)
noncomputable def fX0_neighbours_j49 (σ : St) (a1 : Int32) (b2 : Int32) (b3 : Int32) : Option ((Int32 × Int32) ⊕ (Int32 × Int32)) :=
  some (.inl (b2, (b3 + (1 : Int32))))
noncomputable def fX0_neighbours_l8 (σ : St) (a1 : Int32) (x : (Int32 × Int32)) : Option ((Int32 × Int32) ⊕ (Int32 × Int32)) :=
  (if (gi σ 10 2) ≤ x.2 then
  some (.inr (x.1, x.2))
  else
  (fX7_isThereE σ x.2).bind fun v3 =>
  (if v3 = 0 then
  fX0_neighbours_j49 σ a1 x.1 x.2
  else
  gd (inb x.2 60) <|
  (fX10_has σ a1 (gi σ 15 x.2.toNatClampNeg)).bind fun v6 =>
  (if v6 = 0 then
  fX0_neighbours_j49 σ a1 x.1 x.2
  else
  gd (inb x.2 60) <|
  (fX10_bit σ (gi σ 13 x.2.toNatClampNeg)).bind fun v9 =>
  fX0_neighbours_j49 σ a1 (x.1 ||| v9) x.2)))
noncomputable def fX0_neighbours (σ : St) (a1 : Int32) : Option Int32 :=
  (fX0_onward σ a1).bind fun v1 =>
  (loopF (fX0_neighbours_l8 σ a1) (v1, (0 : Int32))).bind fun x10 =>
  some (x10.1)
noncomputable def fX2_isTaken_j74 (σ : St) (a1 : Int32) (a2 : Int32) (a3 : Int32) (b4 : Int32) : Option (Int32 ⊕ (Int32 ⊕ Int32)) :=
  some (.inl ((b4 + (1 : Int32))))
noncomputable def fX2_isTaken_l14 (σ : St) (a1 : Int32) (a2 : Int32) (a3 : Int32) (x : Int32) : Option (Int32 ⊕ (Int32 ⊕ Int32)) :=
  (if (gi σ 1 2) ≤ x then
  some (.inr (.inl (x)))
  else
  (if x = a3 then
  fX2_isTaken_j74 σ a1 a2 a3 x
  else
  (fX7_isThereN σ x).bind fun v5 =>
  (if v5 = 0 then
  fX2_isTaken_j74 σ a1 a2 a3 x
  else
  gd (inb x 24) <|
  (if (gi σ 4 x.toNatClampNeg) = a1 then
  gd (inb x 24) <|
  (if (gi σ 5 x.toNatClampNeg) = a2 then
  some (.inr (.inr ((1 : Int32))))
  else
  fX2_isTaken_j74 σ a1 a2 a3 x)
  else
  fX2_isTaken_j74 σ a1 a2 a3 x))))
noncomputable def fX2_isTaken (σ : St) (a1 : Int32) (a2 : Int32) (a3 : Int32) : Option Int32 :=
  gd (inb a1 4) <|
  (if (gi σ 17 a1.toNatClampNeg) = 0 then
  some ((0 : Int32))
  else
  (loopF (fX2_isTaken_l14 σ a1 a2 a3) ((0 : Int32))).bind fun x11 => Sum.elim (fun x12 =>
  some ((0 : Int32))) (fun r13 => some (r13)) x11)
noncomputable def fX2_hasTwins_j67 (σ : St) (a1 : Int32) (u2 : Nat) (ea3b : Int32) (ea4b : Int32) (b5 : Int32) : Option (Int32 ⊕ (Int32 ⊕ Int32)) :=
  some (.inl ((b5 + (1 : Int32))))
noncomputable def fX2_hasTwins_l29 (σ : St) (a1 : Int32) (u2 : Nat) (ea3b : Int32) (ea4b : Int32) (x : Int32) : Option (Int32 ⊕ (Int32 ⊕ Int32)) :=
  (if ea4b ≤ x then
  some (.inr (.inl (x)))
  else
  (fX10_has σ ea3b ea4b).bind fun v5 =>
  (if v5 = 0 then
  fX2_hasTwins_j67 σ a1 u2 ea3b ea4b x
  else
  (fX10_has σ ea3b x).bind fun v7 =>
  (if v7 = 0 then
  fX2_hasTwins_j67 σ a1 u2 ea3b ea4b x
  else
  gd (inb ea4b 24) <|
  gd (inb x 24) <|
  (if (gi σ u2 ea4b.toNatClampNeg) = (gi σ u2 x.toNatClampNeg) then
  some (.inr (.inr ((1 : Int32))))
  else
  fX2_hasTwins_j67 σ a1 u2 ea3b ea4b x))))
noncomputable def fX2_hasTwins_l12 (σ : St) (a1 : Int32) (u2 : Nat) (ea3 : Int32) (x : Int32) : Option (Int32 ⊕ (Int32 ⊕ Int32)) :=
  (if (24 : Int32) ≤ x then
  some (.inr (.inl (x)))
  else
  (if (24 : Int32) ≤ x then
  some (.inr (.inl (x)))
  else
  (loopF (fX2_hasTwins_l29 σ a1 u2 ea3 x) ((0 : Int32))).bind fun x12 => Sum.elim (fun x13 =>
  some (.inl ((x + (1 : Int32))))) (fun r14 => some (.inr (.inr (r14)))) x12))
noncomputable def fX2_hasTwins (σ : St) (a1 : Int32) (u2 : Nat) : Option Int32 :=
  (fX6_labelled σ a1).bind fun v1 =>
  (loopF (fX2_hasTwins_l12 σ a1 u2 v1) ((0 : Int32))).bind fun x15 => Sum.elim (fun x16 =>
  some ((0 : Int32))) (fun r17 => some (r17)) x15
noncomputable def fX2_isAllowed_j46 (σ : St) (a1 : Int32) (a2 : Int32) (a3 : Int32) : Option Int32 :=
  some ((1 : Int32))
noncomputable def fX2_isAllowed_j50 (σ : St) (a1 : Int32) (a2 : Int32) (a3 : Int32) : Option Int32 :=
  some ((0 : Int32))
noncomputable def fX2_isAllowed (σ : St) (a1 : Int32) (a2 : Int32) (a3 : Int32) : Option Int32 :=
  gd (inb a2 4) <|
  (if (gi σ 18 a2.toNatClampNeg) = (-1 : Int32) then
  fX2_isAllowed_j46 σ a1 a2 a3
  else
  gd (inb a1 24) <|
  gd (inb a2 4) <|
  (if (gi σ 4 a1.toNatClampNeg) = (gi σ 18 a2.toNatClampNeg) then
  gd (inb a3 24) <|
  gd (inb a2 4) <|
  (if (gi σ 4 a3.toNatClampNeg) = (gi σ 19 a2.toNatClampNeg) then
  fX2_isAllowed_j46 σ a1 a2 a3
  else
  fX2_isAllowed_j50 σ a1 a2 a3)
  else
  fX2_isAllowed_j50 σ a1 a2 a3))
noncomputable def fX3_load_j39 (σ : St) (a1 : Int32) (b2 : Int32) (b3 : Int32) : Option ((Int32 × Int32) ⊕ (Int32 × Int32)) :=
  some (.inl (b2, (b3 + (1 : Int32))))
noncomputable def fX3_load_l4 (σ : St) (a1 : Int32) (x : (Int32 × Int32)) : Option ((Int32 × Int32) ⊕ (Int32 × Int32)) :=
  (if (gi σ 1 2) ≤ x.2 then
  some (.inr (x.1, x.2))
  else
  (fX7_isThereN σ x.2).bind fun v2 =>
  (if v2 = 0 then
  fX3_load_j39 σ a1 x.1 x.2
  else
  gd (inb x.2 24) <|
  (if (gi σ 21 x.2.toNatClampNeg) = a1 then
  fX3_load_j39 σ a1 (x.1 + (1 : Int32)) x.2
  else
  fX3_load_j39 σ a1 x.1 x.2)))
noncomputable def fX3_load (σ : St) (a1 : Int32) : Option Int32 :=
  (loopF (fX3_load_l4 σ a1) ((0 : Int32), (0 : Int32))).bind fun x6 =>
  some (x6.1)
noncomputable def fX3_emptiest_j39 (σ : St) (b1 : Int32) (b2 : Int32) (b3 : Int32) : Option ((Int32 × Int32 × Int32) ⊕ (Int32 × Int32 × Int32)) :=
  some (.inl (b1, b2, (b3 + (1 : Int32))))
noncomputable def fX3_emptiest_l7 (σ : St) (x : (Int32 × Int32 × Int32)) : Option ((Int32 × Int32 × Int32) ⊕ (Int32 × Int32 × Int32)) :=
  (if (3 : Int32) ≤ x.2.2 then
  some (.inr (x.1, x.2.1, x.2.2))
  else
  (fX3_load σ x.2.2).bind fun v2 =>
  gd (inb x.2.2 3) <|
  (if (gi σ 22 x.2.2.toNatClampNeg) = 0 then
  fX3_emptiest_j39 σ x.1 x.2.1 x.2.2
  else
  (if x.2.1 ≤ v2 then
  fX3_emptiest_j39 σ x.1 x.2.1 x.2.2
  else
  fX3_emptiest_j39 σ x.2.2 v2 x.2.2)))
noncomputable def fX3_emptiest (σ : St) : Option Int32 :=
  (loopF (fX3_emptiest_l7 σ) ((-1 : Int32), (25 : Int32), (0 : Int32))).bind fun x6 =>
  some (x6.1)
noncomputable def fX3_reachable_j47 (σ : St) (b1 : Int32) (b2 : Int32) : Option ((Int32 × Int32) ⊕ (Int32 × Int32)) :=
  some (.inl (b1, (b2 + (1 : Int32))))
noncomputable def fX3_reachable_l4 (σ : St) (x : (Int32 × Int32)) : Option ((Int32 × Int32) ⊕ (Int32 × Int32)) :=
  (if (gi σ 1 2) ≤ x.2 then
  some (.inr (x.1, x.2))
  else
  (fX7_isThereN σ x.2).bind fun v2 =>
  (if v2 = 0 then
  fX3_reachable_j47 σ x.1 x.2
  else
  gd (inb x.2 24) <|
  gd (inb (gi σ 21 x.2.toNatClampNeg) 3) <|
  (if (gi σ 22 (gi σ 21 x.2.toNatClampNeg).toNatClampNeg) = 0 then
  fX3_reachable_j47 σ x.1 x.2
  else
  (fX10_bit σ x.2).bind fun v7 =>
  fX3_reachable_j47 σ (x.1 ||| v7) x.2)))
noncomputable def fX3_reachable (σ : St) : Option Int32 :=
  (loopF (fX3_reachable_l4 σ) ((0 : Int32), (0 : Int32))).bind fun x8 =>
  some (x8.1)
noncomputable def fX3_isCut (σ : St) (a1 : Int32) : Option Int32 :=
  gd (inb a1 60) <|
  gd (inb (gi σ 13 a1.toNatClampNeg) 24) <|
  gd (inb a1 60) <|
  gd (inb (gi σ 15 a1.toNatClampNeg) 24) <|
  (if (gi σ 21 (gi σ 13 a1.toNatClampNeg).toNatClampNeg) = (gi σ 21 (gi σ 15 a1.toNatClampNeg).toNatClampNeg) then
  some ((0 : Int32))
  else
  some ((1 : Int32)))
noncomputable def fX3_copied_j94 (σ : St) (a1 : Int32) (b2 : Int32) (b3 : Int32) : Option ((Int32 × Int32) ⊕ (Int32 × Int32)) :=
  some (.inl (b2, (b3 + (1 : Int32))))
noncomputable def fX3_copied_j75 (σ : St) (a1 : Int32) (b2 : Int32) (b3 : Int32) (b4 : Int32) (b5 : Int32) : Option ((Int32 × Int32) ⊕ (Int32 × Int32)) :=
  gd (inb b5 24) <|
  (if (gi σ 21 b5.toNatClampNeg) = a1 then
  (fX10_bit σ b4).bind fun v14 =>
  fX3_copied_j94 σ a1 (b2 ||| v14) b3
  else
  fX3_copied_j94 σ a1 b2 b3)
noncomputable def fX3_copied_l4 (σ : St) (a1 : Int32) (x : (Int32 × Int32)) : Option ((Int32 × Int32) ⊕ (Int32 × Int32)) :=
  (if (gi σ 10 2) ≤ x.2 then
  some (.inr (x.1, x.2))
  else
  (fX7_isThereE σ x.2).bind fun v2 =>
  (if v2 = 0 then
  fX3_copied_j94 σ a1 x.1 x.2
  else
  (fX3_isCut σ x.2).bind fun v4 =>
  (if v4 = 0 then
  fX3_copied_j94 σ a1 x.1 x.2
  else
  gd (inb x.2 60) <|
  lt (gi σ 13 x.2.toNatClampNeg) fun n7 =>
  gd (inb x.2 60) <|
  lt (gi σ 15 x.2.toNatClampNeg) fun n9 =>
  gd (inb n7 24) <|
  (if (gi σ 21 n7.toNatClampNeg) = a1 then
  (fX10_bit σ n9).bind fun v15 =>
  fX3_copied_j75 σ a1 (x.1 ||| v15) x.2 n7 n9
  else
  fX3_copied_j75 σ a1 x.1 x.2 n7 n9))))
noncomputable def fX3_copied (σ : St) (a1 : Int32) : Option Int32 :=
  (loopF (fX3_copied_l4 σ a1) ((0 : Int32), (0 : Int32))).bind fun x16 =>
  some (x16.1)
noncomputable def fX3_cutFewer_j144 (σ : St) (a1 : Int32) (a2 : Int32) (b3 : Int32) (b4 : Int32) : Option ((Int32 × Int32) ⊕ (Int32 × Int32)) :=
  some (.inl (b3, (b4 + (1 : Int32))))
noncomputable def fX3_cutFewer_j141 (σ : St) (a1 : Int32) (a2 : Int32) (b4 : Int32) (t0 : Int32) (t1 : Int32) (t2 : Int32) : Option ((Int32 × Int32) ⊕ (Int32 × Int32)) :=
  fX3_cutFewer_j144 σ a1 a2 (t2 + (t1 - t0)) b4
noncomputable def fX3_cutFewer_j130 (σ : St) (a1 : Int32) (a2 : Int32) (b4 : Int32) (b7 : Int32) (t0 : Int32) (t1 : Int32) : Option ((Int32 × Int32) ⊕ (Int32 × Int32)) :=
  (if b7 = a2 then
  fX3_cutFewer_j141 σ a1 a2 b4 (0 : Int32) t0 t1
  else
  fX3_cutFewer_j141 σ a1 a2 b4 (1 : Int32) t0 t1)
noncomputable def fX3_cutFewer_j110 (σ : St) (a1 : Int32) (a2 : Int32) (b3 : Int32) (b4 : Int32) (t0 : Int32) : Option ((Int32 × Int32) ⊕ (Int32 × Int32)) :=
  gd (inb t0 24) <|
  lt (gi σ 21 t0.toNatClampNeg) fun n12 =>
  gd (inb a1 24) <|
  (if n12 = (gi σ 21 a1.toNatClampNeg) then
  fX3_cutFewer_j130 σ a1 a2 b4 n12 (0 : Int32) b3
  else
  fX3_cutFewer_j130 σ a1 a2 b4 n12 (1 : Int32) b3)
noncomputable def fX3_cutFewer_j57 (σ : St) (a1 : Int32) (a2 : Int32) (b3 : Int32) (b4 : Int32) (b5 : Int32) (t0 : Int32) : Option ((Int32 × Int32) ⊕ (Int32 × Int32)) :=
  (fX7_isThereE σ b4).bind fun v6 =>
  (if v6 = 0 then
  fX3_cutFewer_j144 σ a1 a2 b3 b4
  else
  (if b5 = t0 then
  fX3_cutFewer_j144 σ a1 a2 b3 b4
  else
  (if b5 = 0 then
  gd (inb b4 60) <|
  fX3_cutFewer_j110 σ a1 a2 b3 b4 (gi σ 13 b4.toNatClampNeg)
  else
  gd (inb b4 60) <|
  fX3_cutFewer_j110 σ a1 a2 b3 b4 (gi σ 15 b4.toNatClampNeg))))
noncomputable def fX3_cutFewer_j36 (σ : St) (a1 : Int32) (a2 : Int32) (b3 : Int32) (b4 : Int32) (t0 : Int32) : Option ((Int32 × Int32) ⊕ (Int32 × Int32)) :=
  gd (inb b4 60) <|
  (if (gi σ 15 b4.toNatClampNeg) = a1 then
  fX3_cutFewer_j57 σ a1 a2 b3 b4 t0 (1 : Int32)
  else
  fX3_cutFewer_j57 σ a1 a2 b3 b4 t0 (0 : Int32))
noncomputable def fX3_cutFewer_l5 (σ : St) (a1 : Int32) (a2 : Int32) (x : (Int32 × Int32)) : Option ((Int32 × Int32) ⊕ (Int32 × Int32)) :=
  (if (gi σ 10 2) ≤ x.2 then
  some (.inr (x.1, x.2))
  else
  gd (inb x.2 60) <|
  (if (gi σ 13 x.2.toNatClampNeg) = a1 then
  fX3_cutFewer_j36 σ a1 a2 x.1 x.2 (1 : Int32)
  else
  fX3_cutFewer_j36 σ a1 a2 x.1 x.2 (0 : Int32)))
noncomputable def fX3_cutFewer (σ : St) (a1 : Int32) (a2 : Int32) : Option Int32 :=
  (loopF (fX3_cutFewer_l5 σ a1 a2) ((0 : Int32), (0 : Int32))).bind fun x17 =>
  some (x17.1)
noncomputable def fX3_moveBest_j146 (σ : St) (ea2b : Int32) (ea3b : Int32) (ea7b : Int32) (b4 : Int32) (b5 : Int32) (b6 : Int32) (b8 : Int32) : Option ((Int32 × Int32 × Int32 × Int32) ⊕ (Int32 × Int32 × Int32 × Int32)) :=
  some (.inl (b4, b5, b6, (b8 + (1 : Int32))))
noncomputable def fX3_moveBest_j125 (σ : St) (ea2b : Int32) (ea3b : Int32) (ea7b : Int32) (b4 : Int32) (b5 : Int32) (b6 : Int32) (b8 : Int32) (t0 : Int32) : Option ((Int32 × Int32 × Int32 × Int32) ⊕ (Int32 × Int32 × Int32 × Int32)) :=
  (if t0 ≤ b6 then
  fX3_moveBest_j146 σ ea2b ea3b ea7b b4 b5 b6 b8
  else
  fX3_moveBest_j146 σ ea2b ea3b ea7b ea7b b8 t0 b8)
noncomputable def fX3_moveBest_j106 (σ : St) (ea2b : Int32) (ea3b : Int32) (ea7b : Int32) (b4 : Int32) (b5 : Int32) (b6 : Int32) (b8 : Int32) (t0 : Int32) : Option ((Int32 × Int32 × Int32 × Int32) ⊕ (Int32 × Int32 × Int32 × Int32)) :=
  (if t0 = 0 then
  fX3_moveBest_j125 σ ea2b ea3b ea7b b4 b5 b6 b8 (0 : Int32)
  else
  (fX3_cutFewer σ ea7b b8).bind fun v11 =>
  fX3_moveBest_j125 σ ea2b ea3b ea7b b4 b5 b6 b8 v11)
noncomputable def fX3_moveBest_j105 (σ : St) (ea2b : Int32) (ea3b : Int32) (ea7b : Int32) (b4 : Int32) (b5 : Int32) (b6 : Int32) (b8 : Int32) : Option ((Int32 × Int32 × Int32 × Int32) ⊕ (Int32 × Int32 × Int32 × Int32)) :=
  fX3_moveBest_j106 σ ea2b ea3b ea7b b4 b5 b6 b8 (0 : Int32)
noncomputable def fX3_moveBest_l52 (σ : St) (ea2b : Int32) (ea3b : Int32) (ea7b : Int32) (x : (Int32 × Int32 × Int32 × Int32)) : Option ((Int32 × Int32 × Int32 × Int32) ⊕ (Int32 × Int32 × Int32 × Int32)) :=
  (if (3 : Int32) ≤ x.2.2.2 then
  some (.inr (x.1, x.2.1, x.2.2.1, x.2.2.2))
  else
  (fX10_has σ ea3b ea7b).bind fun v7 =>
  (if v7 = 0 then
  fX3_moveBest_j105 σ ea2b ea3b ea7b x.1 x.2.1 x.2.2.1 x.2.2.2
  else
  gd (inb x.2.2.2 3) <|
  (if (gi σ 22 x.2.2.2.toNatClampNeg) = 0 then
  fX3_moveBest_j105 σ ea2b ea3b ea7b x.1 x.2.1 x.2.2.1 x.2.2.2
  else
  gd (inb ea7b 24) <|
  (if x.2.2.2 = (gi σ 21 ea7b.toNatClampNeg) then
  fX3_moveBest_j105 σ ea2b ea3b ea7b x.1 x.2.1 x.2.2.1 x.2.2.2
  else
  (fX3_load σ x.2.2.2).bind fun v16 =>
  (if ea2b < (v16 + (1 : Int32)) then
  fX3_moveBest_j105 σ ea2b ea3b ea7b x.1 x.2.1 x.2.2.1 x.2.2.2
  else
  fX3_moveBest_j106 σ ea2b ea3b ea7b x.1 x.2.1 x.2.2.1 x.2.2.2 (1 : Int32))))))
noncomputable def fX3_moveBest_l37 (σ : St) (ea2 : Int32) (ea3 : Int32) (x : (Int32 × Int32 × Int32 × Int32)) : Option ((Int32 × Int32 × Int32 × Int32) ⊕ (Int32 × Int32 × Int32 × Int32)) :=
  (if (gi σ 1 2) ≤ x.2.2.2 then
  some (.inr (x.1, x.2.1, x.2.2.1, x.2.2.2))
  else
  (loopF (fX3_moveBest_l52 σ ea2 ea3 x.2.2.2) (x.1, x.2.1, x.2.2.1, (0 : Int32))).bind fun x18 =>
  some (.inl (x18.1, x18.2.1, x18.2.2.1, (x.2.2.2 + (1 : Int32)))))
noncomputable def fX3_moveBest_j173 (σ : St) (b4 : Int32) : Option (Int32 × St) :=
  some (b4, σ)
noncomputable def fX3_moveBest (σ : St) : Option (Int32 × St) :=
  (fX3_emptiest σ).bind fun v1 =>
  (if v1 = (-1 : Int32) then
  some ((-1 : Int32), σ)
  else
  (fX3_load σ v1).bind fun v3 =>
  (fX3_reachable σ).bind fun v4 =>
  (loopF (fX3_moveBest_l37 σ (v3 + (2 : Int32)) v4) ((-1 : Int32), (-1 : Int32), (0 : Int32), (0 : Int32))).bind fun x19 =>
  (if x19.1 = (-1 : Int32) then
  fX3_moveBest_j173 σ x19.1
  else
  gd (inb x19.1 24) <|
  lt (ui σ 21 x19.1.toNatClampNeg x19.2.1) fun σ22 =>
  fX3_moveBest_j173 σ22 x19.1))
noncomputable def fX4_comeTo (σ : St) (a1 : Int32) : Option St :=
  gd (inb a1 24) <|
  lt (ui σ 54 a1.toNatClampNeg a1) fun σ2 =>
  (fX10_bit σ2 a1).bind fun v3 =>
  lt (ui σ2 53 3 ((gi σ2 53 3) ||| v3)) fun σ4 =>
  some (σ4)
noncomputable def fX4_startAnew_l2 (σ : St) (a1 : Int32) (x : (St × Int32)) : Option ((St × Int32) ⊕ (St × Int32)) :=
  (if (24 : Int32) ≤ x.2 then
  some (.inr (x.1, x.2))
  else
  gd (inb x.2 24) <|
  lt (ui x.1 54 x.2.toNatClampNeg x.2) fun σ3 =>
  some (.inl (σ3, (x.2 + (1 : Int32)))))
noncomputable def fX4_startAnew (σ : St) (a1 : Int32) : Option St :=
  (loopF (fX4_startAnew_l2 σ a1) (σ, (0 : Int32))).bind fun x4 =>
  lt (ui x4.1 53 3 a1) fun σ5 =>
  some (σ5)
noncomputable def fX4_sendAlong (σ : St) (a1 : Int32) (a2 : Int32) (a3 : Int32) : Option St :=
  (fX10_has σ a1 a2).bind fun v1 =>
  (if v1 = 0 then
  some (σ)
  else
  gd (inb a2 24) <|
  gd (inb a3 24) <|
  (if (gi σ 54 a3.toNatClampNeg) ≤ (gi σ 55 a2.toNatClampNeg) then
  some (σ)
  else
  gd (inb a2 24) <|
  gd (inb a3 24) <|
  lt (ui σ 54 a3.toNatClampNeg (gi σ 55 a2.toNatClampNeg)) fun σ8 =>
  (fX10_bit σ8 a3).bind fun v9 =>
  lt (ui σ8 53 3 ((gi σ8 53 3) ||| v9)) fun σ10 =>
  some (σ10)))
noncomputable def fX4_sendAll_l12 (σ : St) (ea1 : Int32) (x : (St × Int32)) : Option ((St × Int32) ⊕ (St × Int32)) :=
  (if (24 : Int32) ≤ x.2 then
  some (.inr (x.1, x.2))
  else
  gd (inb x.2 24) <|
  gd (inb x.2 24) <|
  lt (ui x.1 55 x.2.toNatClampNeg (gi x.1 54 x.2.toNatClampNeg)) fun σ5 =>
  some (.inl (σ5, (x.2 + (1 : Int32)))))
noncomputable def fX4_sendAll_j106 (σ : St) (ea1 : Int32) (b2 : Int32) : Option ((St × Int32) ⊕ (St × Int32)) :=
  some (.inl (σ, (b2 + (1 : Int32))))
noncomputable def fX4_sendAll_l38 (σ : St) (ea1 : Int32) (x : (St × Int32)) : Option ((St × Int32) ⊕ (St × Int32)) :=
  (if (gi x.1 10 2) ≤ x.2 then
  some (.inr (x.1, x.2))
  else
  (fX7_isThereE x.1 x.2).bind fun v8 =>
  (if v8 = 0 then
  fX4_sendAll_j106 x.1 ea1 x.2
  else
  gd (inb x.2 60) <|
  gd (inb x.2 60) <|
  (fX4_sendAlong x.1 ea1 (gi x.1 13 x.2.toNatClampNeg) (gi x.1 15 x.2.toNatClampNeg)).bind fun v12 =>
  gd (inb x.2 60) <|
  gd (inb x.2 60) <|
  (fX4_sendAlong v12 ea1 (gi v12 15 x.2.toNatClampNeg) (gi v12 13 x.2.toNatClampNeg)).bind fun v15 =>
  fX4_sendAll_j106 v15 ea1 x.2))
noncomputable def fX4_sendAll (σ : St) : Option St :=
  lt (ui σ 53 3 (0 : Int32)) fun σ1 =>
  (loopF (fX4_sendAll_l12 σ1 (gi σ 53 3)) (σ1, (0 : Int32))).bind fun x6 =>
  (loopF (fX4_sendAll_l38 x6.1 (gi σ 53 3)) (x6.1, (0 : Int32))).bind fun x16 =>
  some (x16.1)
noncomputable def fX9_openAt (σ : St) (u0 : Nat) (a1 : Int32) : Option St :=
  lt (ui σ (57 + 5 * u0) 4 (1 : Int32)) fun σ1 =>
  lt (ui σ1 (57 + 5 * u0) 5 a1) fun σ2 =>
  lt (ui σ2 (57 + 5 * u0) 6 (0 : Int32)) fun σ3 =>
  lt (ui σ3 (57 + 5 * u0) 7 (0 : Int32)) fun σ4 =>
  lt (ul σ4 (57 + 5 * u0) 8 (0 : Int64)) fun σ5 =>
  some (σ5)
noncomputable def fX9_putValue (σ : St) (u0 : Nat) (a1 : Int32) (a2 : Int32) : Option St :=
  (fX10_bit σ a1).bind fun v1 =>
  lt (ui σ (57 + 5 * u0) 6 ((gi σ (57 + 5 * u0) 6) ||| v1)) fun σ2 =>
  gd (inb a1 24) <|
  lt (ui σ2 (58 + 5 * u0) a1.toNatClampNeg a2) fun σ4 =>
  some (σ4)
noncomputable def fX9_putLink (σ : St) (u0 : Nat) (a1 : Int32) (a2 : Int32) (a3 : Int32) : Option St :=
  gd (inb (gi σ (57 + 5 * u0) 7) 8) <|
  lt (ui σ (59 + 5 * u0) (gi σ (57 + 5 * u0) 7).toNatClampNeg a1) fun σ2 =>
  gd (inb (gi σ2 (57 + 5 * u0) 7) 8) <|
  lt (ui σ2 (60 + 5 * u0) (gi σ2 (57 + 5 * u0) 7).toNatClampNeg a2) fun σ4 =>
  gd (inb (gi σ4 (57 + 5 * u0) 7) 8) <|
  lt (ui σ4 (61 + 5 * u0) (gi σ4 (57 + 5 * u0) 7).toNatClampNeg a3) fun σ6 =>
  lt (ui σ6 (57 + 5 * u0) 7 ((gi σ6 (57 + 5 * u0) 7) + (1 : Int32))) fun σ7 =>
  some (σ7)
noncomputable def fX9_putDrop (σ : St) (u0 : Nat) (a1 : Int32) : Option St :=
  lt (ul σ (57 + 5 * u0) 8 ((gl σ (57 + 5 * u0) 8) ||| ((1 : Int64) <<< (a1.toInt64 &&& 63)))) fun σ1 =>
  some (σ1)
noncomputable def fX9_drops (σ : St) (u0 : Nat) (a1 : Int32) : Option Int32 :=
  (if (lg_cmp ((gl σ (57 + 5 * u0) 8) &&& ((1 : Int64) <<< (a1.toInt64 &&& 63))) (0 : Int64)) = 0 then
  some ((0 : Int32))
  else
  some ((1 : Int32)))
noncomputable def fX9_hasWrites_j23 (σ : St) (u0 : Nat) : Option Int32 :=
  some ((1 : Int32))
noncomputable def fX9_hasWrites (σ : St) (u0 : Nat) : Option Int32 :=
  (if (gi σ (57 + 5 * u0) 6) = 0 then
  (if (gi σ (57 + 5 * u0) 7) = 0 then
  (if (lg_cmp (gl σ (57 + 5 * u0) 8) (0 : Int64)) = 0 then
  some ((0 : Int32))
  else
  fX9_hasWrites_j23 σ u0)
  else
  fX9_hasWrites_j23 σ u0)
  else
  fX9_hasWrites_j23 σ u0)
noncomputable def fX9_linksFrom_j25 (σ : St) (u0 : Nat) (a1 : Int32) (b2 : Int32) (b3 : Int32) : Option ((Int32 × Int32) ⊕ (Int32 × Int32)) :=
  some (.inl (b2, (b3 + (1 : Int32))))
noncomputable def fX9_linksFrom_l4 (σ : St) (u0 : Nat) (a1 : Int32) (x : (Int32 × Int32)) : Option ((Int32 × Int32) ⊕ (Int32 × Int32)) :=
  (if (gi σ (57 + 5 * u0) 7) ≤ x.2 then
  some (.inr (x.1, x.2))
  else
  gd (inb x.2 8) <|
  (if (gi σ (59 + 5 * u0) x.2.toNatClampNeg) = a1 then
  fX9_linksFrom_j25 σ u0 a1 (x.1 + (1 : Int32)) x.2
  else
  fX9_linksFrom_j25 σ u0 a1 x.1 x.2))
noncomputable def fX9_linksFrom (σ : St) (u0 : Nat) (a1 : Int32) : Option Int32 :=
  (loopF (fX9_linksFrom_l4 σ u0 a1) ((0 : Int32), (0 : Int32))).bind fun x4 =>
  some (x4.1)
noncomputable def fX9_touching_l7 (σ : St) (u0 : Nat) (x : (Int32 × Int32)) : Option ((Int32 × Int32) ⊕ (Int32 × Int32)) :=
  (if (gi σ (57 + 5 * u0) 7) ≤ x.2 then
  some (.inr (x.1, x.2))
  else
  gd (inb x.2 8) <|
  (fX10_bit σ (gi σ (59 + 5 * u0) x.2.toNatClampNeg)).bind fun v3 =>
  gd (inb x.2 8) <|
  (fX10_bit σ (gi σ (61 + 5 * u0) x.2.toNatClampNeg)).bind fun v5 =>
  some (.inl ((x.1 ||| (v3 ||| v5)), (x.2 + (1 : Int32)))))
noncomputable def fX9_touching_j83 (σ : St) (u0 : Nat) (b2 : Int32) (b3 : Int32) : Option ((Int32 × Int32) ⊕ (Int32 × Int32)) :=
  some (.inl (b2, (b3 + (1 : Int32))))
noncomputable def fX9_touching_l45 (σ : St) (u0 : Nat) (x : (Int32 × Int32)) : Option ((Int32 × Int32) ⊕ (Int32 × Int32)) :=
  (if (gi σ 10 2) ≤ x.2 then
  some (.inr (x.1, x.2))
  else
  (fX9_drops σ u0 x.2).bind fun v8 =>
  (if v8 = 0 then
  fX9_touching_j83 σ u0 x.1 x.2
  else
  gd (inb x.2 60) <|
  (fX10_bit σ (gi σ 13 x.2.toNatClampNeg)).bind fun v11 =>
  gd (inb x.2 60) <|
  (fX10_bit σ (gi σ 15 x.2.toNatClampNeg)).bind fun v13 =>
  fX9_touching_j83 σ u0 (x.1 ||| (v11 ||| v13)) x.2))
noncomputable def fX9_touching (σ : St) (u0 : Nat) : Option Int32 :=
  (loopF (fX9_touching_l7 σ u0) ((gi σ (57 + 5 * u0) 6), (0 : Int32))).bind fun x6 =>
  (loopF (fX9_touching_l45 σ u0) (x6.1, (0 : Int32))).bind fun x14 =>
  some (x14.1)
noncomputable def fX8_taken_j10 (σ : St) (a0 : Int32) : Option Int32 :=
  some ((2 : Int32))
noncomputable def fX8_taken (σ : St) (a0 : Int32) : Option Int32 :=
  (if a0 = (3 : Int32) then
  fX8_taken_j10 σ a0
  else
  (if a0 = (4 : Int32) then
  fX8_taken_j10 σ a0
  else
  (if a0 = (5 : Int32) then
  some ((1 : Int32))
  else
  some ((0 : Int32)))))
noncomputable def fX8_put_j109 (σ : St) (u0 : Nat) (a1 : Int32) (a2 : Int32) : Option St :=
  gd (inb (gi σ (78 + 6 * u0) 6) 12) <|
  lt (ui σ (83 + 6 * u0) (gi σ (78 + 6 * u0) 6).toNatClampNeg (gi σ (78 + 6 * u0) 5)) fun σ11 =>
  lt (ui σ11 (78 + 6 * u0) 6 ((gi σ11 (78 + 6 * u0) 6) + (1 : Int32))) fun σ12 =>
  lt (ui σ12 (78 + 6 * u0) 5 ((gi σ12 (78 + 6 * u0) 5) + (1 : Int32))) fun σ13 =>
  some (σ13)
noncomputable def fX8_put_j76 (σ : St) (u0 : Nat) (a1 : Int32) (a2 : Int32) (b3 : Int32) : Option St :=
  (if b3 < (1 : Int32) then
  fX8_put_j109 σ u0 a1 a2
  else
  lt (ui σ (78 + 6 * u0) 6 ((gi σ (78 + 6 * u0) 6) - (1 : Int32))) fun σ14 =>
  gd (inb (gi σ14 (78 + 6 * u0) 6) 12) <|
  gd (inb (gi σ14 (78 + 6 * u0) 5) 12) <|
  lt (ui σ14 (81 + 6 * u0) (gi σ14 (78 + 6 * u0) 5).toNatClampNeg (gi σ14 (83 + 6 * u0) (gi σ14 (78 + 6 * u0) 6).toNatClampNeg)) fun σ17 =>
  fX8_put_j109 σ17 u0 a1 a2)
noncomputable def fX8_put (σ : St) (u0 : Nat) (a1 : Int32) (a2 : Int32) : Option St :=
  (fX8_taken σ a1).bind fun v1 =>
  (if (12 : Int32) ≤ (gi σ (78 + 6 * u0) 5) then
  some (σ)
  else
  (if v1 ≤ (gi σ (78 + 6 * u0) 6) then
  gd (inb (gi σ (78 + 6 * u0) 5) 12) <|
  lt (ui σ (79 + 6 * u0) (gi σ (78 + 6 * u0) 5).toNatClampNeg a1) fun σ5 =>
  gd (inb (gi σ5 (78 + 6 * u0) 5) 12) <|
  lt (ui σ5 (80 + 6 * u0) (gi σ5 (78 + 6 * u0) 5).toNatClampNeg a2) fun σ7 =>
  (if v1 = (2 : Int32) then
  lt (ui σ7 (78 + 6 * u0) 6 ((gi σ7 (78 + 6 * u0) 6) - (1 : Int32))) fun σ18 =>
  gd (inb (gi σ18 (78 + 6 * u0) 6) 12) <|
  gd (inb (gi σ18 (78 + 6 * u0) 5) 12) <|
  lt (ui σ18 (82 + 6 * u0) (gi σ18 (78 + 6 * u0) 5).toNatClampNeg (gi σ18 (83 + 6 * u0) (gi σ18 (78 + 6 * u0) 6).toNatClampNeg)) fun σ21 =>
  fX8_put_j76 σ21 u0 a1 a2 v1
  else
  fX8_put_j76 σ7 u0 a1 a2 v1)
  else
  some (σ)))
noncomputable def fX1_addRule (σ : St) (a1 : Int32) (a2 : Int32) (a3 : Int32) : Option (Int32 × St) :=
  lt (ui σ 23 7 ((gi σ 23 7) + (1 : Int32))) fun σ1 =>
  gd (inb (gi σ 23 7) 6) <|
  lt (ui σ1 24 (gi σ 23 7).toNatClampNeg a1) fun σ3 =>
  gd (inb (gi σ 23 7) 6) <|
  lt (ui σ3 25 (gi σ 23 7).toNatClampNeg a2) fun σ5 =>
  gd (inb (gi σ 23 7) 6) <|
  lt (ui σ5 26 (gi σ 23 7).toNatClampNeg a3) fun σ7 =>
  some ((gi σ 23 7), σ7)
noncomputable def fX1_takeTold_l9 (σ : St) (ea1b : Int32) (x : (St × Int32)) : Option ((St × Int32) ⊕ (St × Int32)) :=
  (if (24 : Int32) ≤ x.2 then
  some (.inr (x.1, x.2))
  else
  gd (inb ea1b 4) <|
  gd (inb x.2 24) <|
  lt (ui x.1 (29 + ea1b.toNatClampNeg) x.2.toNatClampNeg (0 : Int32)) fun σ5 =>
  some (.inl (σ5, (x.2 + (1 : Int32)))))
noncomputable def fX1_takeTold_l2 (σ : St) (x : (St × Int32)) : Option ((St × Int32) ⊕ (St × Int32)) :=
  (if (4 : Int32) ≤ x.2 then
  some (.inr (x.1, x.2))
  else
  (loopF (fX1_takeTold_l9 x.1 x.2) (x.1, (0 : Int32))).bind fun x6 =>
  some (.inl (x6.1, (x.2 + (1 : Int32)))))
noncomputable def fX1_takeTold_j99 (σ : St) (b1 : Int32) : Option ((St × Int32) ⊕ (St × Int32)) :=
  some (.inl (σ, (b1 + (1 : Int32))))
noncomputable def fX1_takeTold_l38 (σ : St) (x : (St × Int32)) : Option ((St × Int32) ⊕ (St × Int32)) :=
  (if (gi x.1 10 2) ≤ x.2 then
  some (.inr (x.1, x.2))
  else
  (fX7_isThereE x.1 x.2).bind fun v9 =>
  (if v9 = 0 then
  fX1_takeTold_j99 x.1 x.2
  else
  gd (inb x.2 60) <|
  gd (inb (gi x.1 14 x.2.toNatClampNeg) 4) <|
  gd (inb x.2 60) <|
  gd (inb (gi x.1 13 x.2.toNatClampNeg) 24) <|
  gd (inb x.2 60) <|
  (fX10_bit x.1 (gi x.1 15 x.2.toNatClampNeg)).bind fun v16 =>
  gd (inb (gi x.1 13 x.2.toNatClampNeg) 24) <|
  lt (ui x.1 (29 + (gi x.1 14 x.2.toNatClampNeg).toNatClampNeg) (gi x.1 13 x.2.toNatClampNeg).toNatClampNeg ((gi x.1 (29 + (gi x.1 14 x.2.toNatClampNeg).toNatClampNeg) (gi x.1 13 x.2.toNatClampNeg).toNatClampNeg) ||| v16)) fun σ18 =>
  fX1_takeTold_j99 σ18 x.2))
noncomputable def fX1_takeTold_l114 (σ : St) (ea1b : Int32) (x : (St × Int32)) : Option ((St × Int32) ⊕ (St × Int32)) :=
  (if (24 : Int32) ≤ x.2 then
  some (.inr (x.1, x.2))
  else
  gd (inb ea1b 4) <|
  gd (inb ea1b 4) <|
  gd (inb x.2 24) <|
  gd (inb x.2 24) <|
  lt (ui x.1 (34 + ea1b.toNatClampNeg) x.2.toNatClampNeg (gi x.1 (29 + ea1b.toNatClampNeg) x.2.toNatClampNeg)) fun σ26 =>
  some (.inl (σ26, (x.2 + (1 : Int32)))))
noncomputable def fX1_takeTold_l107 (σ : St) (x : (St × Int32)) : Option ((St × Int32) ⊕ (St × Int32)) :=
  (if (4 : Int32) ≤ x.2 then
  some (.inr (x.1, x.2))
  else
  (loopF (fX1_takeTold_l114 x.1 x.2) (x.1, (0 : Int32))).bind fun x27 =>
  some (.inl (x27.1, (x.2 + (1 : Int32)))))
noncomputable def fX1_takeTold (σ : St) : Option St :=
  (loopF (fX1_takeTold_l2 σ) (σ, (0 : Int32))).bind fun x7 =>
  (loopF (fX1_takeTold_l38 x7.1) (x7.1, (0 : Int32))).bind fun x19 =>
  (loopF (fX1_takeTold_l107 x19.1) (x19.1, (0 : Int32))).bind fun x28 =>
  some (x28.1)
noncomputable def fX1_forth_j40 (σ : St) (a1 : Int32) (a2 : Int32) (b3 : Int32) (b4 : Int32) : Option ((Int32 × Int32) ⊕ (Int32 × Int32)) :=
  some (.inl (b3, (b4 + (1 : Int32))))
noncomputable def fX1_forth_l5 (σ : St) (a1 : Int32) (a2 : Int32) (x : (Int32 × Int32)) : Option ((Int32 × Int32) ⊕ (Int32 × Int32)) :=
  (if (24 : Int32) ≤ x.2 then
  some (.inr (x.1, x.2))
  else
  (if (ush a2 x.2) = 0 then
  some (.inr (x.1, x.2))
  else
  (fX10_has σ a2 x.2).bind fun v3 =>
  (if v3 = 0 then
  fX1_forth_j40 σ a1 a2 x.1 x.2
  else
  gd (inb a1 4) <|
  gd (inb x.2 24) <|
  lt (x.1 ||| (gi σ (34 + a1.toNatClampNeg) x.2.toNatClampNeg)) fun n7 =>
  fX1_forth_j40 σ a1 a2 n7 x.2)))
noncomputable def fX1_forth (σ : St) (a1 : Int32) (a2 : Int32) : Option Int32 :=
  (loopF (fX1_forth_l5 σ a1 a2) ((0 : Int32), (0 : Int32))).bind fun x8 =>
  some (x8.1)
noncomputable def fX1_inferOnce_j103 (σ : St) (ea2b : Int32) (b3 : Int32) (t0 : Int32) : Option ((St × Int32 × Int32) ⊕ (St × Int32 × Int32)) :=
  some (.inl (σ, t0, (b3 + (1 : Int32))))
noncomputable def fX1_inferOnce_j98 (σ : St) (ea2b : Int32) (b3 : Int32) : Option ((St × Int32 × Int32) ⊕ (St × Int32 × Int32)) :=
  fX1_inferOnce_j103 σ ea2b b3 (1 : Int32)
noncomputable def fX1_inferOnce_l14 (σ : St) (ea2b : Int32) (x : (St × Int32 × Int32)) : Option ((St × Int32 × Int32) ⊕ (St × Int32 × Int32)) :=
  (if (24 : Int32) ≤ x.2.2 then
  some (.inr (x.1, x.2.1, x.2.2))
  else
  gd (inb ea2b 6) <|
  (if (gi x.1 27 ea2b.toNatClampNeg) = 0 then
  gd (inb ea2b 6) <|
  gd (inb (gi x.1 26 ea2b.toNatClampNeg) 4) <|
  gd (inb x.2.2 24) <|
  lt (gi x.1 (34 + (gi x.1 26 ea2b.toNatClampNeg).toNatClampNeg) x.2.2.toNatClampNeg) fun n8 =>
  gd (inb ea2b 6) <|
  gd (inb ea2b 6) <|
  gd (inb (gi x.1 24 ea2b.toNatClampNeg) 4) <|
  gd (inb x.2.2 24) <|
  (fX1_forth x.1 (gi x.1 25 ea2b.toNatClampNeg) (gi x.1 (34 + (gi x.1 24 ea2b.toNatClampNeg).toNatClampNeg) x.2.2.toNatClampNeg)).bind fun v13 =>
  gd (inb ea2b 6) <|
  gd (inb (gi x.1 26 ea2b.toNatClampNeg) 4) <|
  gd (inb x.2.2 24) <|
  lt (ui x.1 (34 + (gi x.1 26 ea2b.toNatClampNeg).toNatClampNeg) x.2.2.toNatClampNeg (n8 ||| v13)) fun σ17 =>
  (if x.2.1 = 0 then
  (if (n8 ||| v13) = n8 then
  fX1_inferOnce_j103 σ17 ea2b x.2.2 (0 : Int32)
  else
  fX1_inferOnce_j98 σ17 ea2b x.2.2)
  else
  fX1_inferOnce_j98 σ17 ea2b x.2.2)
  else
  some (.inr (x.1, x.2.1, x.2.2))))
noncomputable def fX1_inferOnce_l4 (σ : St) (x : (St × Int32 × Int32)) : Option ((St × Int32 × Int32) ⊕ (St × Int32 × Int32)) :=
  (if (gi x.1 23 7) ≤ x.2.2 then
  some (.inr (x.1, x.2.1, x.2.2))
  else
  (loopF (fX1_inferOnce_l14 x.1 x.2.2) (x.1, x.2.1, (0 : Int32))).bind fun x20 =>
  some (.inl (x20.1, x20.2.1, (x.2.2 + (1 : Int32)))))
noncomputable def fX1_inferOnce (σ : St) : Option (Int32 × St) :=
  (loopF (fX1_inferOnce_l4 σ) (σ, (0 : Int32), (0 : Int32))).bind fun x21 =>
  gd (x21.2.1 &&& 1 = x21.2.1) <|
  some (x21.2.1, x21.1)
noncomputable def fX1_inferAnew_l8 (σ : St) (x : (St × Int32 × Int32)) : Option ((St × Int32 × Int32) ⊕ (St × Int32 × Int32)) :=
  (if x.2.1 = 0 then
  some (.inr (x.1, x.2.1, x.2.2))
  else
  (if (2304 : Int32) < x.2.2 then
  some (.inr (x.1, x.2.1, x.2.2))
  else
  (fX1_inferOnce x.1).bind fun v4 =>
  some (.inl (v4.2, v4.1, (x.2.2 + (1 : Int32))))))
noncomputable def fX1_inferAnew (σ : St) : Option St :=
  (fX1_takeTold σ).bind fun v1 =>
  (loopF (fX1_inferAnew_l8 v1) (v1, (1 : Int32), (0 : Int32))).bind fun x5 =>
  some (x5.1)
noncomputable def fX1_backwards_j34 (σ : St) (a1 : Int32) (a2 : Int32) (b3 : Int32) (b4 : Int32) : Option ((Int32 × Int32) ⊕ (Int32 × Int32)) :=
  some (.inl (b3, (b4 + (1 : Int32))))
noncomputable def fX1_backwards_l5 (σ : St) (a1 : Int32) (a2 : Int32) (x : (Int32 × Int32)) : Option ((Int32 × Int32) ⊕ (Int32 × Int32)) :=
  (if (24 : Int32) ≤ x.2 then
  some (.inr (x.1, x.2))
  else
  gd (inb a1 4) <|
  gd (inb x.2 24) <|
  (if ((gi σ (34 + a1.toNatClampNeg) x.2.toNatClampNeg) &&& a2) = 0 then
  fX1_backwards_j34 σ a1 a2 x.1 x.2
  else
  (fX10_bit σ x.2).bind fun v5 =>
  fX1_backwards_j34 σ a1 a2 (x.1 ||| v5) x.2))
noncomputable def fX1_backwards (σ : St) (a1 : Int32) (a2 : Int32) : Option Int32 :=
  (loopF (fX1_backwards_l5 σ a1 a2) ((0 : Int32), (0 : Int32))).bind fun x6 =>
  some (x6.1)
noncomputable def fJ6_bitCount (σ : St) (a0 : Int32) : Option Int32 :=
  lt (a0 - ((ush a0 (1 : Int32)) &&& (1431655765 : Int32))) fun n1 =>
  lt ((n1 &&& (858993459 : Int32)) + ((ush n1 (2 : Int32)) &&& (858993459 : Int32))) fun n2 =>
  lt ((n2 + (ush n2 (4 : Int32))) &&& (252645135 : Int32)) fun n3 =>
  lt (n3 + (ush n3 (8 : Int32))) fun n4 =>
  lt (n4 + (ush n4 (16 : Int32))) fun n5 =>
  some ((n5 &&& (63 : Int32)))
noncomputable def fX1_countInferred_l11 (σ : St) (ea2b : Int32) (x : (Int32 × Int32)) : Option ((Int32 × Int32) ⊕ (Int32 × Int32)) :=
  (if (24 : Int32) ≤ x.2 then
  some (.inr (x.1, x.2))
  else
  gd (inb ea2b 4) <|
  gd (inb x.2 24) <|
  gd (inb ea2b 4) <|
  gd (inb x.2 24) <|
  (fJ6_bitCount σ ((gi σ (34 + ea2b.toNatClampNeg) x.2.toNatClampNeg) &&& ((gi σ (29 + ea2b.toNatClampNeg) x.2.toNatClampNeg) ^^^ (-1 : Int32)))).bind fun v7 =>
  some (.inl ((x.1 + v7), (x.2 + (1 : Int32)))))
noncomputable def fX1_countInferred_l4 (σ : St) (x : (Int32 × Int32)) : Option ((Int32 × Int32) ⊕ (Int32 × Int32)) :=
  (if (4 : Int32) ≤ x.2 then
  some (.inr (x.1, x.2))
  else
  (loopF (fX1_countInferred_l11 σ x.2) (x.1, (0 : Int32))).bind fun x8 =>
  some (.inl (x8.1, (x.2 + (1 : Int32)))))
noncomputable def fX1_countInferred (σ : St) : Option Int32 :=
  (loopF (fX1_countInferred_l4 σ) ((0 : Int32), (0 : Int32))).bind fun x9 =>
  some (x9.1)
noncomputable def fX1_countWays_j74 (σ : St) (a1 : Int32) (a2 : Int32) (a3 : Int32) (b4 : Int32) (b5 : Int32) : Option ((Int32 × Int32) ⊕ (Int32 × Int32)) :=
  some (.inl (b4, (b5 + (1 : Int32))))
noncomputable def fX1_countWays_l6 (σ : St) (a1 : Int32) (a2 : Int32) (a3 : Int32) (x : (Int32 × Int32)) : Option ((Int32 × Int32) ⊕ (Int32 × Int32)) :=
  (if (gi σ 23 7) ≤ x.2 then
  some (.inr (x.1, x.2))
  else
  gd (inb x.2 6) <|
  (if (gi σ 27 x.2.toNatClampNeg) = 0 then
  gd (inb x.2 6) <|
  (if (gi σ 26 x.2.toNatClampNeg) = a2 then
  gd (inb x.2 6) <|
  gd (inb (gi σ 24 x.2.toNatClampNeg) 4) <|
  gd (inb a1 24) <|
  gd (inb x.2 6) <|
  (fX10_bit σ a3).bind fun v10 =>
  (fX1_backwards σ (gi σ 25 x.2.toNatClampNeg) v10).bind fun v11 =>
  (fJ6_bitCount σ ((gi σ (34 + (gi σ 24 x.2.toNatClampNeg).toNatClampNeg) a1.toNatClampNeg) &&& v11)).bind fun v12 =>
  fX1_countWays_j74 σ a1 a2 a3 (x.1 + v12) x.2
  else
  fX1_countWays_j74 σ a1 a2 a3 x.1 x.2)
  else
  fX1_countWays_j74 σ a1 a2 a3 x.1 x.2))
noncomputable def fX1_countWays (σ : St) (a1 : Int32) (a2 : Int32) (a3 : Int32) : Option Int32 :=
  (loopF (fX1_countWays_l6 σ a1 a2 a3) ((0 : Int32), (0 : Int32))).bind fun x13 =>
  some (x13.1)
noncomputable def fX5_join_j41 (σ : St) (u0 : Nat) (u1 : Nat) (u2 : Nat) (ea3b : Int32) (b4 : Int32) (b5 : Int32) : Option ((Int32 × Int32) ⊕ (Int32 × Int32)) :=
  some (.inl (b4, (b5 + (1 : Int32))))
noncomputable def fX5_join_l14 (σ : St) (u0 : Nat) (u1 : Nat) (u2 : Nat) (ea3b : Int32) (x : (Int32 × Int32)) : Option ((Int32 × Int32) ⊕ (Int32 × Int32)) :=
  (if (24 : Int32) ≤ x.2 then
  some (.inr (x.1, x.2))
  else
  gd (inb ea3b 24) <|
  (fX10_has σ (gi σ u0 ea3b.toNatClampNeg) x.2).bind fun v4 =>
  (if v4 = 0 then
  fX5_join_j41 σ u0 u1 u2 ea3b x.1 x.2
  else
  gd (inb x.2 24) <|
  lt (x.1 ||| (gi σ u1 x.2.toNatClampNeg)) fun n7 =>
  fX5_join_j41 σ u0 u1 u2 ea3b n7 x.2))
noncomputable def fX5_join_l2 (σ : St) (u0 : Nat) (u1 : Nat) (u2 : Nat) (x : (St × Int32)) : Option ((St × Int32) ⊕ (St × Int32)) :=
  (if (24 : Int32) ≤ x.2 then
  some (.inr (x.1, x.2))
  else
  (loopF (fX5_join_l14 x.1 u0 u1 u2 x.2) ((0 : Int32), (0 : Int32))).bind fun x8 =>
  gd (inb x.2 24) <|
  lt (ui x.1 u2 x.2.toNatClampNeg x8.1) fun σ10 =>
  some (.inl (σ10, (x.2 + (1 : Int32)))))
noncomputable def fX5_join (σ : St) (u0 : Nat) (u1 : Nat) (u2 : Nat) : Option St :=
  (loopF (fX5_join_l2 σ u0 u1 u2) (σ, (0 : Int32))).bind fun x11 =>
  some (x11.1)
noncomputable def fX5_repeat_l2 (σ : St) (u0 : Nat) (a1 : Int32) (u2 : Nat) (x : (St × Int32)) : Option ((St × Int32) ⊕ (St × Int32)) :=
  (if (24 : Int32) ≤ x.2 then
  some (.inr (x.1, x.2))
  else
  gd (inb x.2 24) <|
  (fX10_bit x.1 x.2).bind fun v3 =>
  gd (inb x.2 24) <|
  lt (ui x.1 u2 x.2.toNatClampNeg ((gi x.1 u0 x.2.toNatClampNeg) ||| (v3 &&& a1))) fun σ5 =>
  some (.inl (σ5, (x.2 + (1 : Int32)))))
noncomputable def fX5_repeat_j66 (σ : St) (u0 : Nat) (a1 : Int32) (u2 : Nat) (ea3b : Int32) (b4 : Int32) : Option ((St × Int32) ⊕ (St × Int32)) :=
  some (.inl (σ, (b4 + (1 : Int32))))
noncomputable def fX5_repeat_l38 (σ : St) (u0 : Nat) (a1 : Int32) (u2 : Nat) (ea3b : Int32) (x : (St × Int32)) : Option ((St × Int32) ⊕ (St × Int32)) :=
  (if (24 : Int32) ≤ x.2 then
  some (.inr (x.1, x.2))
  else
  gd (inb x.2 24) <|
  (fX10_has x.1 (gi x.1 u2 x.2.toNatClampNeg) ea3b).bind fun v10 =>
  (if v10 = 0 then
  fX5_repeat_j66 x.1 u0 a1 u2 ea3b x.2
  else
  gd (inb x.2 24) <|
  gd (inb ea3b 24) <|
  gd (inb x.2 24) <|
  lt (ui x.1 u2 x.2.toNatClampNeg ((gi x.1 u2 x.2.toNatClampNeg) ||| (gi x.1 u2 ea3b.toNatClampNeg))) fun σ15 =>
  fX5_repeat_j66 σ15 u0 a1 u2 ea3b x.2))
noncomputable def fX5_repeat_l29 (σ : St) (u0 : Nat) (a1 : Int32) (u2 : Nat) (x : (St × Int32)) : Option ((St × Int32) ⊕ (St × Int32)) :=
  (if (24 : Int32) ≤ x.2 then
  some (.inr (x.1, x.2))
  else
  (loopF (fX5_repeat_l38 x.1 u0 a1 u2 x.2) (x.1, (0 : Int32))).bind fun x16 =>
  some (.inl (x16.1, (x.2 + (1 : Int32)))))
noncomputable def fX5_repeat (σ : St) (u0 : Nat) (a1 : Int32) (u2 : Nat) : Option St :=
  (loopF (fX5_repeat_l2 σ u0 a1 u2) (σ, (0 : Int32))).bind fun x6 =>
  (loopF (fX5_repeat_l29 x6.1 u0 a1 u2) (x6.1, (0 : Int32))).bind fun x17 =>
  some (x17.1)
noncomputable def fX5_goOneStep (σ : St) (u1 : Nat) (a2 : Int32) (a3 : Int32) : Option Int32 :=
  gd (inb a2 12) <|
  lt (gi σ (80 + 6 * u1) a2.toNatClampNeg) fun n2 =>
  gd (inb a2 12) <|
  (if (gi σ (79 + 6 * u1) a2.toNatClampNeg) = (0 : Int32) then
  (fX1_forth σ n2 a3).bind fun v5 =>
  some (v5)
  else
  if (gi σ (79 + 6 * u1) a2.toNatClampNeg) = (1 : Int32) then
  (fX1_backwards σ n2 a3).bind fun v7 =>
  some (v7)
  else
  (fX6_labelled σ n2).bind fun v8 =>
  some ((a3 &&& v8)))
noncomputable def fX5_relateStep_l83 (σ : St) (u1 : Nat) (a2 : Int32) (a3 : Int32) (uw4 : Nat) (uw5 : Nat) (uw6 : Nat) (x : (St × Int32)) : Option ((St × Int32) ⊕ (St × Int32)) :=
  (if (24 : Int32) ≤ x.2 then
  some (.inr (x.1, x.2))
  else
  gd (inb x.2 24) <|
  gd (inb x.2 24) <|
  gd (inb x.2 24) <|
  lt (ui x.1 (40 + uw4) x.2.toNatClampNeg ((gi x.1 (40 + uw5) x.2.toNatClampNeg) ||| (gi x.1 (40 + uw6) x.2.toNatClampNeg))) fun σ14 =>
  some (.inl (σ14, (x.2 + (1 : Int32)))))
noncomputable def fX5_relateStep_l129 (σ : St) (u1 : Nat) (a2 : Int32) (a3 : Int32) (uw4 : Nat) (uw5 : Nat) (uw6 : Nat) (x : (St × Int32)) : Option ((St × Int32) ⊕ (St × Int32)) :=
  (if (24 : Int32) ≤ x.2 then
  some (.inr (x.1, x.2))
  else
  (fX10_bit x.1 x.2).bind fun v19 =>
  (fX5_goOneStep x.1 u1 a2 (v19 &&& a3)).bind fun v20 =>
  gd (inb x.2 24) <|
  lt (ui x.1 (40 + uw4) x.2.toNatClampNeg (v20 &&& a3)) fun σ22 =>
  some (.inl (σ22, (x.2 + (1 : Int32)))))
noncomputable def fX5_relateStep (σ : St) (u1 : Nat) (a2 : Int32) (a3 : Int32) : Option St :=
  gd (inb a2 12) <|
  gd (inb a2 12) <|
  gd (inb (gi σ (81 + 6 * u1) a2.toNatClampNeg) 12) <|
  gd (inb a2 12) <|
  gd (inb (gi σ (82 + 6 * u1) a2.toNatClampNeg) 12) <|
  gd (inb a2 12) <|
  (if (gi σ (79 + 6 * u1) a2.toNatClampNeg) = (3 : Int32) then
  (fX5_join σ (40 + (gi σ (81 + 6 * u1) a2.toNatClampNeg).toNatClampNeg) (40 + (gi σ (82 + 6 * u1) a2.toNatClampNeg).toNatClampNeg) (40 + a2.toNatClampNeg)).bind fun v8 =>
  some (v8)
  else
  if (gi σ (79 + 6 * u1) a2.toNatClampNeg) = (4 : Int32) then
  (loopF (fX5_relateStep_l83 σ u1 a2 a3 a2.toNatClampNeg ((gi σ (81 + 6 * u1) a2.toNatClampNeg).toNatClampNeg) ((gi σ (82 + 6 * u1) a2.toNatClampNeg).toNatClampNeg)) (σ, (0 : Int32))).bind fun x15 =>
  some (x15.1)
  else
  if (gi σ (79 + 6 * u1) a2.toNatClampNeg) = (5 : Int32) then
  (fX5_repeat σ (40 + (gi σ (81 + 6 * u1) a2.toNatClampNeg).toNatClampNeg) a3 (40 + a2.toNatClampNeg)).bind fun v17 =>
  some (v17)
  else
  (loopF (fX5_relateStep_l129 σ u1 a2 a3 a2.toNatClampNeg ((gi σ (81 + 6 * u1) a2.toNatClampNeg).toNatClampNeg) ((gi σ (82 + 6 * u1) a2.toNatClampNeg).toNatClampNeg)) (σ, (0 : Int32))).bind fun x23 =>
  some (x23.1))
noncomputable def fX5_relate_l14 (σ : St) (u1 : Nat) (a2 : Int32) (x : (St × Int32)) : Option ((St × Int32) ⊕ (St × Int32)) :=
  (if (gi x.1 (78 + 6 * u1) 5) ≤ x.2 then
  some (.inr (x.1, x.2))
  else
  (fX5_relateStep x.1 u1 x.2 a2).bind fun v3 =>
  some (.inl (v3, (x.2 + (1 : Int32)))))
noncomputable def fX5_relate (σ : St) (u1 : Nat) (a2 : Int32) : Option (Nat × St) :=
  (if (gi σ (78 + 6 * u1) 5) = 0 then
  some (12, σ)
  else
  (loopF (fX5_relate_l14 σ u1 a2) (σ, (0 : Int32))).bind fun x4 =>
  gd (inb ((gi x4.1 (78 + 6 * u1) 5) - (1 : Int32)) 12) <|
  some (((gi x4.1 (78 + 6 * u1) 5) - (1 : Int32)).toNatClampNeg, x4.1))
noncomputable def fX5_once_l4 (σ : St) (u0 : Nat) (a1 : Int32) (x : (Int32 × Int32)) : Option ((Int32 × Int32) ⊕ (Int32 × Int32)) :=
  (if (12 : Int32) ≤ x.2 then
  some (.inr (x.1, x.2))
  else
  gd (inb x.1 12) <|
  (if (gi σ (79 + 6 * u0) x.1.toNatClampNeg) = (5 : Int32) then
  gd (inb x.1 12) <|
  lt (gi σ (81 + 6 * u0) x.1.toNatClampNeg) fun n5 =>
  some (.inl (n5, (x.2 + (1 : Int32))))
  else
  some (.inr (x.1, x.2))))
noncomputable def fX5_once (σ : St) (u0 : Nat) (a1 : Int32) : Option Int32 :=
  (loopF (fX5_once_l4 σ u0 a1) (a1, (0 : Int32))).bind fun x6 =>
  some (x6.1)
noncomputable def fX5_goOnOften_l9 (σ : St) (rec : St → Nat → Int32 → Int32 → Int32 → Int32 → Option Int32) (u1 : Nat) (a2 : Int32) (a3 : Int32) (a4 : Int32) (a5 : Int32) (x : (Int32 × Int32 × Int32)) : Option ((Int32 × Int32 × Int32) ⊕ (Int32 × Int32 × Int32)) :=
  (if x.2.1 = 0 then
  some (.inr (x.1, x.2.1, x.2.2))
  else
  (if (24 : Int32) ≤ x.2.2 then
  some (.inr (x.1, x.2.1, x.2.2))
  else
  (rec σ u1 a2 x.2.1 a4 a5).bind fun v3 =>
  lt (v3 &&& (x.1 ^^^ (-1 : Int32))) fun n4 =>
  some (.inl ((x.1 ||| n4), n4, (x.2.2 + (1 : Int32))))))
noncomputable def fX5_goOnOften (σ : St) (rec : St → Nat → Int32 → Int32 → Int32 → Int32 → Option Int32) (u1 : Nat) (a2 : Int32) (a3 : Int32) (a4 : Int32) (a5 : Int32) : Option Int32 :=
  (loopF (fX5_goOnOften_l9 σ rec u1 a2 a3 a4 a5) (a3, a3, (0 : Int32))).bind fun x5 =>
  some (x5.1)
noncomputable def fX5_goOnFrom_j11 (σ : St) (rec : St → Nat → Int32 → Int32 → Int32 → Int32 → Option Int32) (u1 : Nat) (a2 : Int32) (a3 : Int32) (a4 : Int32) (a5 : Int32) : Option Int32 :=
  some ((0 : Int32))
noncomputable def fX5_goOnFromB (σ : St) (rec : St → Nat → Int32 → Int32 → Int32 → Int32 → Option Int32) (u1 : Nat) (a2 : Int32) (a3 : Int32) (a4 : Int32) (a5 : Int32) : Option Int32 :=
  (if (12 : Int32) < a5 then
  fX5_goOnFrom_j11 σ rec u1 a2 a3 a4 a5
  else
  (if a3 = 0 then
  fX5_goOnFrom_j11 σ rec u1 a2 a3 a4 a5
  else
  gd (inb a2 12) <|
  lt (gi σ (81 + 6 * u1) a2.toNatClampNeg) fun n4 =>
  gd (inb a2 12) <|
  lt (gi σ (82 + 6 * u1) a2.toNatClampNeg) fun n6 =>
  gd (inb a2 12) <|
  (if (gi σ (79 + 6 * u1) a2.toNatClampNeg) = (3 : Int32) then
  (rec σ u1 n4 a3 a4 (a5 + (1 : Int32))).bind fun v9 =>
  (rec σ u1 n6 v9 a4 (a5 + (1 : Int32))).bind fun v10 =>
  some (v10)
  else
  if (gi σ (79 + 6 * u1) a2.toNatClampNeg) = (4 : Int32) then
  (rec σ u1 n4 a3 a4 (a5 + (1 : Int32))).bind fun v12 =>
  (rec σ u1 n6 a3 a4 (a5 + (1 : Int32))).bind fun v13 =>
  some ((v12 ||| v13))
  else
  if (gi σ (79 + 6 * u1) a2.toNatClampNeg) = (5 : Int32) then
  (fX5_once σ u1 n4).bind fun v15 =>
  (fX5_goOnOften σ rec u1 v15 a3 a4 (a5 + (1 : Int32))).bind fun v16 =>
  some (v16)
  else
  (fX5_goOneStep σ u1 a2 a3).bind fun v17 =>
  some ((v17 &&& a4)))))
noncomputable def fX5_goOnFrom : Nat → St → Nat → Int32 → Int32 → Int32 → Int32 → Option Int32
  | 0, _, _, _, _, _, _ => none
  | n + 1, σ, u1, a2, a3, a4, a5 => fX5_goOnFromB σ (fX5_goOnFrom n) u1 a2 a3 a4 a5
noncomputable def fX5_goOn (σ : St) (u1 : Nat) (a2 : Int32) (a3 : Int32) : Option Int32 :=
  (if (gi σ (78 + 6 * u1) 5) = 0 then
  some ((0 : Int32))
  else
  (fX10_bit σ a2).bind fun v2 =>
  (fX5_goOnFrom 14 σ u1 ((gi σ (78 + 6 * u1) 5) - (1 : Int32)) (v2 &&& a3) a3 (0 : Int32)).bind fun v3 =>
  some (v3))
noncomputable def fX10_addEdge (σ : St) (a1 : Int32) (a2 : Int32) (a3 : Int32) : Option (Int32 × St) :=
  (fX0_add σ a1 a2 a3 (gi σ 0 11)).bind fun v1 =>
  gd (inb a1 24) <|
  lt (ui v1.2 6 a1.toNatClampNeg (gi v1.2 0 11)) fun σ3 =>
  gd (inb a3 24) <|
  lt (ui σ3 6 a3.toNatClampNeg (gi σ3 0 11)) fun σ5 =>
  (fX10_bit σ5 a1).bind fun v6 =>
  (fX10_bit σ5 a3).bind fun v7 =>
  lt (ui σ5 53 3 ((gi σ5 53 3) ||| (v6 ||| v7))) fun σ8 =>
  some (v1.1, σ8)
noncomputable def fX10_endEdge (σ : St) (a1 : Int32) : Option St :=
  (fX7_endE σ a1 (gi σ 0 11)).bind fun v1 =>
  gd (inb a1 60) <|
  gd (inb (gi v1 13 a1.toNatClampNeg) 24) <|
  lt (ui v1 6 (gi v1 13 a1.toNatClampNeg).toNatClampNeg (gi v1 0 11)) fun σ4 =>
  gd (inb a1 60) <|
  gd (inb (gi σ4 15 a1.toNatClampNeg) 24) <|
  lt (ui σ4 6 (gi σ4 15 a1.toNatClampNeg).toNatClampNeg (gi σ4 0 11)) fun σ7 =>
  some (σ7)
noncomputable def fX10_startAnew (σ : St) : Option St :=
  (fX4_startAnew σ (gi σ 1 10)).bind fun v1 =>
  (fX1_inferAnew v1).bind fun v2 =>
  some (v2)
noncomputable def fX10_areShaped_j87 (σ : St) (a1 : Int32) (a2 : Int32) (a3 : Int32) (b4 : Int32) : Option (Int32 ⊕ (Int32 ⊕ Int32)) :=
  some (.inl ((b4 + (1 : Int32))))
noncomputable def fX10_areShaped_j85 (σ : St) (a1 : Int32) (a2 : Int32) (a3 : Int32) : Option (Int32 ⊕ (Int32 ⊕ Int32)) :=
  some (.inr (.inr ((0 : Int32))))
noncomputable def fX10_areShaped_l3 (σ : St) (a1 : Int32) (a2 : Int32) (a3 : Int32) (x : Int32) : Option (Int32 ⊕ (Int32 ⊕ Int32)) :=
  (if (gi σ 10 2) ≤ x then
  some (.inr (.inl (x)))
  else
  (fX7_isThereE σ x).bind fun v2 =>
  (if v2 = 0 then
  fX10_areShaped_j87 σ a1 a2 a3 x
  else
  gd (inb x 60) <|
  (if (gi σ 14 x.toNatClampNeg) = a1 then
  gd (inb x 60) <|
  gd (inb (gi σ 13 x.toNatClampNeg) 24) <|
  (if (gi σ 4 (gi σ 13 x.toNatClampNeg).toNatClampNeg) = a2 then
  gd (inb x 60) <|
  gd (inb (gi σ 15 x.toNatClampNeg) 24) <|
  (if (gi σ 4 (gi σ 15 x.toNatClampNeg).toNatClampNeg) = a3 then
  fX10_areShaped_j87 σ a1 a2 a3 x
  else
  fX10_areShaped_j85 σ a1 a2 a3)
  else
  fX10_areShaped_j85 σ a1 a2 a3)
  else
  fX10_areShaped_j87 σ a1 a2 a3 x)))
noncomputable def fX10_areShaped (σ : St) (a1 : Int32) (a2 : Int32) (a3 : Int32) : Option Int32 :=
  (loopF (fX10_areShaped_l3 σ a1 a2 a3) ((0 : Int32))).bind fun x12 => Sum.elim (fun x13 =>
  some ((1 : Int32))) (fun r14 => some (r14)) x12
noncomputable def fX10_shift (σ : St) : Option (Int32 × St) :=
  (fX3_moveBest σ).bind fun v1 =>
  some (v1.1, v1.2)
noncomputable def fX10_cut_j40 (σ : St) (b1 : Int32) (b2 : Int32) : Option ((Int32 × Int32) ⊕ (Int32 × Int32)) :=
  some (.inl (b1, (b2 + (1 : Int32))))
noncomputable def fX10_cut_l4 (σ : St) (x : (Int32 × Int32)) : Option ((Int32 × Int32) ⊕ (Int32 × Int32)) :=
  (if (gi σ 10 2) ≤ x.2 then
  some (.inr (x.1, x.2))
  else
  (fX7_isThereE σ x.2).bind fun v2 =>
  (if v2 = 0 then
  fX10_cut_j40 σ x.1 x.2
  else
  (fX3_isCut σ x.2).bind fun v4 =>
  (if v4 = 0 then
  fX10_cut_j40 σ x.1 x.2
  else
  fX10_cut_j40 σ (x.1 + (1 : Int32)) x.2)))
noncomputable def fX10_cut (σ : St) : Option Int32 :=
  (loopF (fX10_cut_l4 σ) ((0 : Int32), (0 : Int32))).bind fun x6 =>
  some (x6.1)
noncomputable def fX10_clashes_j59 (σ : St) (u1 : Nat) (ea2 : Int32) (b3 : Int32) : Option (Int32 ⊕ (Int32 ⊕ Int32)) :=
  some (.inl ((b3 + (1 : Int32))))
noncomputable def fX10_clashes_j57 (σ : St) (u1 : Nat) (ea2 : Int32) : Option (Int32 ⊕ (Int32 ⊕ Int32)) :=
  some (.inr (.inr ((1 : Int32))))
noncomputable def fX10_clashes_l11 (σ : St) (u1 : Nat) (ea2 : Int32) (x : Int32) : Option (Int32 ⊕ (Int32 ⊕ Int32)) :=
  (if (gi σ 1 2) ≤ x then
  some (.inr (.inl (x)))
  else
  (fX10_has σ ea2 x).bind fun v3 =>
  (if v3 = 0 then
  fX10_clashes_j59 σ u1 ea2 x
  else
  gd (inb x 24) <|
  (if (gi σ (57 + 5 * u1) 5) < (gi σ 6 x.toNatClampNeg) then
  fX10_clashes_j57 σ u1 ea2
  else
  (fX7_isThereN σ x).bind fun v7 =>
  (if v7 = 0 then
  fX10_clashes_j57 σ u1 ea2
  else
  fX10_clashes_j59 σ u1 ea2 x))))
noncomputable def fX10_clashes (σ : St) (u1 : Nat) : Option Int32 :=
  (fX9_touching σ u1).bind fun v1 =>
  (loopF (fX10_clashes_l11 σ u1 v1) ((0 : Int32))).bind fun x9 => Sum.elim (fun x10 =>
  some ((0 : Int32))) (fun r11 => some (r11)) x9
noncomputable def fX10_breaksShape_l2 (σ : St) (u1 : Nat) (x : Int32) : Option (Int32 ⊕ (Int32 ⊕ Int32)) :=
  (if (gi σ (57 + 5 * u1) 7) ≤ x then
  some (.inr (.inl (x)))
  else
  gd (inb x 8) <|
  gd (inb x 8) <|
  gd (inb x 8) <|
  (fX2_isAllowed σ (gi σ (59 + 5 * u1) x.toNatClampNeg) (gi σ (60 + 5 * u1) x.toNatClampNeg) (gi σ (61 + 5 * u1) x.toNatClampNeg)).bind fun v5 =>
  (if v5 = 0 then
  some (.inr (.inr ((1 : Int32))))
  else
  some (.inl ((x + (1 : Int32))))))
noncomputable def fX10_breaksShape (σ : St) (u1 : Nat) : Option Int32 :=
  (loopF (fX10_breaksShape_l2 σ u1) ((0 : Int32))).bind fun x7 => Sum.elim (fun x8 =>
  some ((0 : Int32))) (fun r9 => some (r9)) x7
noncomputable def fX10_breaksKey_j47 (σ : St) (u1 : Nat) (b2 : Int32) (t0 : Int32) (t1 : Int32) : Option ((St × Int32) ⊕ (St × Int32)) :=
  gd (inb t1 24) <|
  lt (ui σ 120 t1.toNatClampNeg t0) fun σ6 =>
  some (.inl (σ6, (b2 + (1 : Int32))))
noncomputable def fX10_breaksKey_l2 (σ : St) (u1 : Nat) (x : (St × Int32)) : Option ((St × Int32) ⊕ (St × Int32)) :=
  (if (gi x.1 1 2) ≤ x.2 then
  some (.inr (x.1, x.2))
  else
  (fX10_has x.1 (gi x.1 (57 + 5 * u1) 6) x.2).bind fun v2 =>
  (if v2 = 0 then
  gd (inb x.2 24) <|
  fX10_breaksKey_j47 x.1 u1 x.2 (gi x.1 5 x.2.toNatClampNeg) x.2
  else
  gd (inb x.2 24) <|
  fX10_breaksKey_j47 x.1 u1 x.2 (gi x.1 (58 + 5 * u1) x.2.toNatClampNeg) x.2))
noncomputable def fX10_breaksKey_j90 (σ : St) (u1 : Nat) (b2 : Int32) : Option (Int32 ⊕ (Int32 ⊕ (Int32 × St))) :=
  some (.inl ((b2 + (1 : Int32))))
noncomputable def fX10_breaksKey_l56 (σ : St) (u1 : Nat) (x : Int32) : Option (Int32 ⊕ (Int32 ⊕ (Int32 × St))) :=
  (if (4 : Int32) ≤ x then
  some (.inr (.inl (x)))
  else
  gd (inb x 4) <|
  (if (gi σ 17 x.toNatClampNeg) = 0 then
  fX10_breaksKey_j90 σ u1 x
  else
  (fX2_hasTwins σ x 120).bind fun v12 =>
  (if v12 = 0 then
  fX10_breaksKey_j90 σ u1 x
  else
  some (.inr (.inr ((1 : Int32), σ))))))
noncomputable def fX10_breaksKey (σ : St) (u1 : Nat) : Option (Int32 × St) :=
  (loopF (fX10_breaksKey_l2 σ u1) (σ, (0 : Int32))).bind fun x8 =>
  (loopF (fX10_breaksKey_l56 x8.1 u1) ((0 : Int32))).bind fun x14 => Sum.elim (fun x15 =>
  some ((0 : Int32), x8.1)) (fun r16 => some (r16)) x14
noncomputable def fX10_breaksLaws_j33 (σ : St) (u1 : Nat) : Option (Int32 × St) :=
  some ((1 : Int32), σ)
noncomputable def fX10_breaksLaws (σ : St) (u1 : Nat) : Option (Int32 × St) :=
  (if (60 : Int32) < ((gi σ 10 2) + (gi σ (57 + 5 * u1) 7)) then
  fX10_breaksLaws_j33 σ u1
  else
  (fX10_breaksShape σ u1).bind fun v2 =>
  (if v2 = 0 then
  (fX10_breaksKey σ u1).bind fun v4 =>
  (if v4.1 = 0 then
  some ((0 : Int32), v4.2)
  else
  fX10_breaksLaws_j33 v4.2 u1)
  else
  fX10_breaksLaws_j33 σ u1))
noncomputable def fX10_writeAll_j52 (σ : St) (u1 : Nat) (b2 : Int32) : Option ((St × Int32) ⊕ (St × Int32)) :=
  some (.inl (σ, (b2 + (1 : Int32))))
noncomputable def fX10_writeAll_l12 (σ : St) (u1 : Nat) (x : (St × Int32)) : Option ((St × Int32) ⊕ (St × Int32)) :=
  (if (gi x.1 1 2) ≤ x.2 then
  some (.inr (x.1, x.2))
  else
  (fX10_has x.1 (gi x.1 (57 + 5 * u1) 6) x.2).bind fun v3 =>
  (if v3 = 0 then
  fX10_writeAll_j52 x.1 u1 x.2
  else
  gd (inb x.2 24) <|
  (fX6_put x.1 x.2 (gi x.1 (58 + 5 * u1) x.2.toNatClampNeg) (gi x.1 0 11)).bind fun v6 =>
  fX10_writeAll_j52 v6 u1 x.2))
noncomputable def fX10_writeAll_j84 (σ : St) (u1 : Nat) (b2 : Int32) : Option ((St × Int32) ⊕ (St × Int32)) :=
  some (.inl (σ, (b2 + (1 : Int32))))
noncomputable def fX10_writeAll_l60 (σ : St) (u1 : Nat) (x : (St × Int32)) : Option ((St × Int32) ⊕ (St × Int32)) :=
  (if (gi x.1 10 2) ≤ x.2 then
  some (.inr (x.1, x.2))
  else
  (fX9_drops x.1 u1 x.2).bind fun v9 =>
  (if v9 = 0 then
  fX10_writeAll_j84 x.1 u1 x.2
  else
  (fX10_endEdge x.1 x.2).bind fun v11 =>
  fX10_writeAll_j84 v11 u1 x.2))
noncomputable def fX10_writeAll_l92 (σ : St) (u1 : Nat) (x : (St × Int32)) : Option ((St × Int32) ⊕ (St × Int32)) :=
  (if (gi x.1 (57 + 5 * u1) 7) ≤ x.2 then
  some (.inr (x.1, x.2))
  else
  gd (inb x.2 8) <|
  gd (inb x.2 8) <|
  gd (inb x.2 8) <|
  (fX10_addEdge x.1 (gi x.1 (59 + 5 * u1) x.2.toNatClampNeg) (gi x.1 (60 + 5 * u1) x.2.toNatClampNeg) (gi x.1 (61 + 5 * u1) x.2.toNatClampNeg)).bind fun v17 =>
  some (.inl (v17.2, (x.2 + (1 : Int32)))))
noncomputable def fX10_writeAll_j152 (σ : St) (u1 : Nat) : Option St :=
  (fX1_inferAnew σ).bind fun v20 =>
  some (v20)
noncomputable def fX10_writeAll (σ : St) (u1 : Nat) : Option St :=
  lt (ui σ 0 11 ((gi σ 0 11) + (1 : Int32))) fun σ1 =>
  (loopF (fX10_writeAll_l12 σ1 u1) (σ1, (0 : Int32))).bind fun x7 =>
  (loopF (fX10_writeAll_l60 x7.1 u1) (x7.1, (0 : Int32))).bind fun x12 =>
  (loopF (fX10_writeAll_l92 x12.1 u1) (x12.1, (0 : Int32))).bind fun x18 =>
  (if (lg_cmp (gl x18.1 (57 + 5 * u1) 8) (0 : Int64)) = 0 then
  fX10_writeAll_j152 x18.1 u1
  else
  (fX4_startAnew x18.1 (gi x18.1 1 10)).bind fun v21 =>
  fX10_writeAll_j152 v21 u1)
noncomputable def fX10_time (σ : St) : Option Int32 :=
  some ((gi σ 0 11))
noncomputable def fX10_inferred (σ : St) : Option Int32 :=
  (fX1_countInferred σ).bind fun v1 =>
  some (v1)
noncomputable def fX10_walkedFrom_l19 (σ : St) (a1 : Int32) (a2 : Int32) (ea3 : Int32) (x : (Int32 × Int32)) : Option ((Int32 × Int32) ⊕ (Int32 × Int32)) :=
  (if a2 ≤ x.2 then
  some (.inr (x.1, x.2))
  else
  (fX0_onward σ x.1).bind fun v4 =>
  some (.inl ((x.1 ||| (v4 &&& ea3)), (x.2 + (1 : Int32)))))
noncomputable def fX10_walkedFrom (σ : St) (a1 : Int32) (a2 : Int32) : Option Int32 :=
  (fX3_reachable σ).bind fun v1 =>
  (fX10_bit σ a1).bind fun v2 =>
  (loopF (fX10_walkedFrom_l19 σ a1 a2 v1) ((v2 &&& v1), (0 : Int32))).bind fun x5 =>
  some (x5.1)
noncomputable def fX10_lowest_l2 (σ : St) (a0 : Int32) (x : Int32) : Option (Int32 ⊕ (Int32 ⊕ Int32)) :=
  (if (24 : Int32) ≤ x then
  some (.inr (.inl (x)))
  else
  (fX10_has σ a0 x).bind fun v2 =>
  (if v2 = 0 then
  some (.inl ((x + (1 : Int32))))
  else
  some (.inr (.inr (x)))))
noncomputable def fX10_lowest (σ : St) (a0 : Int32) : Option Int32 :=
  (loopF (fX10_lowest_l2 σ a0) ((0 : Int32))).bind fun x4 => Sum.elim (fun x5 =>
  some ((-1 : Int32))) (fun r6 => some (r6)) x4
