noncomputable def fX10_requireLabel_j9 (σ : St) (a0 : Int32) : Option (Unit ⊕ Nat) :=
  some (.inr 0)
noncomputable def fX10_requireLabel (σ : St) (a0 : Int32) : Option (Unit ⊕ Nat) :=
  (if a0 < 0 then
  fX10_requireLabel_j9 σ a0
  else
  (if a0 < (4 : Int32) then
  some (.inl (()))
  else
  fX10_requireLabel_j9 σ a0))
noncomputable def fX10_node (σ : St) (a1 : Int32) (a2 : Int32) : Option ((Int32 × St) ⊕ (Nat × St)) :=
  (fX10_requireLabel σ a1).bind fun v1 => Sum.elim (fun v2 =>
  (if (gi σ 1 2) < (24 : Int32) then
  (fX3_emptiest σ).bind fun v5 =>
  (if v5 = (-1 : Int32) then
  some (.inr (2, σ))
  else
  (fX2_isTaken σ a1 a2 (-1 : Int32)).bind fun v7 =>
  (if v7 = 0 then
  lt (ui σ 0 11 ((gi σ 0 11) + (1 : Int32))) fun σ9 =>
  (fX6_add σ9 a1 a2 (gi σ9 0 11)).bind fun v10 =>
  gd (inb v10.1 24) <|
  lt (ui v10.2 21 v10.1.toNatClampNeg v5) fun σ12 =>
  (fX4_comeTo σ12 v10.1).bind fun v13 =>
  some (.inl (v10.1, v13))
  else
  some (.inr (2, σ))))
  else
  some (.inr (2, σ)))) (fun n3 => some (.inr (n3, σ))) v1
noncomputable def fX10_requireNode (σ : St) (a1 : Int32) : Option (Unit ⊕ Nat) :=
  (fX7_isThereN σ a1).bind fun v1 =>
  (if v1 = 0 then
  some (.inr 0)
  else
  some (.inl (())))
noncomputable def fX10_edge (σ : St) (a1 : Int32) (a2 : Int32) (a3 : Int32) : Option ((Int32 × St) ⊕ (Nat × St)) :=
  (fX10_requireNode σ a1).bind fun v1 => Sum.elim (fun v2 =>
  (fX10_requireNode σ a3).bind fun v4 => Sum.elim (fun v5 =>
  (fX10_requireLabel σ a2).bind fun v7 => Sum.elim (fun v8 =>
  (if (gi σ 10 2) < (60 : Int32) then
  (fX2_isAllowed σ a1 a2 a3).bind fun v11 =>
  (if v11 = 0 then
  some (.inr (2, σ))
  else
  lt (ui σ 0 11 ((gi σ 0 11) + (1 : Int32))) fun σ13 =>
  (fX10_addEdge σ13 a1 a2 a3).bind fun v14 =>
  (fX1_inferAnew v14.2).bind fun v15 =>
  some (.inl (v14.1, v15)))
  else
  some (.inr (2, σ)))) (fun n9 => some (.inr (n9, σ))) v7) (fun n6 => some (.inr (n6, σ))) v4) (fun n3 => some (.inr (n3, σ))) v1
noncomputable def fX10_set (σ : St) (a1 : Int32) (a2 : Int32) : Option ((Int32 × St) ⊕ (Nat × St)) :=
  (fX10_requireNode σ a1).bind fun v1 => Sum.elim (fun v2 =>
  gd (inb a1 24) <|
  (fX2_isTaken σ (gi σ 4 a1.toNatClampNeg) a2 a1).bind fun v5 =>
  (if v5 = 0 then
  gd (inb a1 24) <|
  lt (gi σ 5 a1.toNatClampNeg) fun n8 =>
  lt (ui σ 0 11 ((gi σ 0 11) + (1 : Int32))) fun σ9 =>
  (fX6_put σ9 a1 a2 (gi σ9 0 11)).bind fun v10 =>
  some (.inl (n8, v10))
  else
  some (.inr (2, σ)))) (fun n3 => some (.inr (n3, σ))) v1
noncomputable def fX10_requireEdge (σ : St) (a1 : Int32) : Option (Unit ⊕ Nat) :=
  (fX7_isThereE σ a1).bind fun v1 =>
  (if v1 = 0 then
  some (.inr 0)
  else
  some (.inl (())))
noncomputable def fX10_dropEdge (σ : St) (a1 : Int32) : Option ((Int32 × St) ⊕ (Nat × St)) :=
  (fX10_requireEdge σ a1).bind fun v1 => Sum.elim (fun v2 =>
  lt (ui σ 0 11 ((gi σ 0 11) + (1 : Int32))) fun σ4 =>
  (fX10_endEdge σ4 a1).bind fun v5 =>
  (fX10_startAnew v5).bind fun v6 =>
  some (.inl ((gi v6 0 11), v6))) (fun n3 => some (.inr (n3, σ))) v1
noncomputable def fX10_dropNode_j75 (σ : St) (a1 : Int32) (b2 : Int32) (b3 : Int32) : Option ((St × Int32 × Int32) ⊕ (St × Int32 × Int32)) :=
  some (.inl (σ, b2, (b3 + (1 : Int32))))
noncomputable def fX10_dropNode_j67 (σ : St) (a1 : Int32) (b2 : Int32) (b3 : Int32) : Option ((St × Int32 × Int32) ⊕ (St × Int32 × Int32)) :=
  (fX10_endEdge σ b3).bind fun v10 =>
  fX10_dropNode_j75 v10 a1 (b2 + (1 : Int32)) b3
noncomputable def fX10_dropNode_l19 (σ : St) (a1 : Int32) (x : (St × Int32 × Int32)) : Option ((St × Int32 × Int32) ⊕ (St × Int32 × Int32)) :=
  (if (gi x.1 10 2) ≤ x.2.2 then
  some (.inr (x.1, x.2.1, x.2.2))
  else
  (fX7_isThereE x.1 x.2.2).bind fun v6 =>
  (if v6 = 0 then
  fX10_dropNode_j75 x.1 a1 x.2.1 x.2.2
  else
  gd (inb x.2.2 60) <|
  (if (gi x.1 13 x.2.2.toNatClampNeg) = a1 then
  fX10_dropNode_j67 x.1 a1 x.2.1 x.2.2
  else
  gd (inb x.2.2 60) <|
  (if (gi x.1 15 x.2.2.toNatClampNeg) = a1 then
  fX10_dropNode_j67 x.1 a1 x.2.1 x.2.2
  else
  fX10_dropNode_j75 x.1 a1 x.2.1 x.2.2))))
noncomputable def fX10_dropNode (σ : St) (a1 : Int32) : Option ((Int32 × St) ⊕ (Nat × St)) :=
  (fX10_requireNode σ a1).bind fun v1 => Sum.elim (fun v2 =>
  lt (ui σ 0 11 ((gi σ 0 11) + (1 : Int32))) fun σ4 =>
  (loopF (fX10_dropNode_l19 σ4 a1) (σ4, (0 : Int32), (0 : Int32))).bind fun x13 =>
  (fX6_leave x13.1 a1 (gi x13.1 0 11)).bind fun v14 =>
  (fX10_startAnew v14).bind fun v15 =>
  some (.inl (x13.2.1, v15))) (fun n3 => some (.inr (n3, σ))) v1
noncomputable def fX10_key_j69 (σ : St) (a1 : Int32) (t0 : Int32) (t1 : Int32) : Option ((Int32 × St) ⊕ (Nat × St)) :=
  gd (inb t1 4) <|
  gd (t0 &&& 1 = t0) <|
  lt (ui σ 17 t1.toNatClampNeg t0) fun σ10 =>
  gd (inb a1 4) <|
  gd ((gi σ10 17 a1.toNatClampNeg) &&& 1 = (gi σ10 17 a1.toNatClampNeg)) <|
  some (.inl ((gi σ10 17 a1.toNatClampNeg), σ10))
noncomputable def fX10_key_j44 (σ : St) (a1 : Int32) : Option ((Int32 × St) ⊕ (Nat × St)) :=
  gd (inb a1 4) <|
  (if (gi σ 17 a1.toNatClampNeg) = 0 then
  fX10_key_j69 σ a1 (1 : Int32) a1
  else
  fX10_key_j69 σ a1 (0 : Int32) a1)
noncomputable def fX10_key (σ : St) (a1 : Int32) : Option ((Int32 × St) ⊕ (Nat × St)) :=
  (fX10_requireLabel σ a1).bind fun v1 => Sum.elim (fun v2 =>
  gd (inb a1 4) <|
  (if (gi σ 17 a1.toNatClampNeg) = 0 then
  (fX2_hasTwins σ a1 5).bind fun v13 =>
  (if v13 = 0 then
  fX10_key_j44 σ a1
  else
  some (.inr (2, σ)))
  else
  fX10_key_j44 σ a1)) (fun n3 => some (.inr (n3, σ))) v1
noncomputable def fX10_shape (σ : St) (a1 : Int32) (a2 : Int32) (a3 : Int32) : Option (St ⊕ (Nat × St)) :=
  (fX10_requireLabel σ a1).bind fun v1 => Sum.elim (fun v2 =>
  (if a2 = (-1 : Int32) then
  gd (inb a1 4) <|
  lt (ui σ 18 a1.toNatClampNeg (-1 : Int32)) fun σ18 =>
  some (.inl (σ18))
  else
  (fX10_requireLabel σ a2).bind fun v5 => Sum.elim (fun v6 =>
  (fX10_requireLabel σ a3).bind fun v8 => Sum.elim (fun v9 =>
  (fX10_areShaped σ a1 a2 a3).bind fun v11 =>
  (if v11 = 0 then
  some (.inr (2, σ))
  else
  gd (inb a1 4) <|
  lt (ui σ 18 a1.toNatClampNeg a2) fun σ14 =>
  gd (inb a1 4) <|
  lt (ui σ14 19 a1.toNatClampNeg a3) fun σ16 =>
  some (.inl (σ16)))) (fun n10 => some (.inr (n10, σ))) v8) (fun n7 => some (.inr (n7, σ))) v5)) (fun n3 => some (.inr (n3, σ))) v1
noncomputable def fX10_requireMachine_j9 (σ : St) (a0 : Int32) : Option (Unit ⊕ Nat) :=
  some (.inr 0)
noncomputable def fX10_requireMachine (σ : St) (a0 : Int32) : Option (Unit ⊕ Nat) :=
  (if a0 < 0 then
  fX10_requireMachine_j9 σ a0
  else
  (if a0 < (3 : Int32) then
  some (.inl (()))
  else
  fX10_requireMachine_j9 σ a0))
noncomputable def fX10_move_j43 (σ : St) (a1 : Int32) (a2 : Int32) : Option ((Int32 × St) ⊕ (Nat × St)) :=
  some (.inr (2, σ))
noncomputable def fX10_move (σ : St) (a1 : Int32) (a2 : Int32) : Option ((Int32 × St) ⊕ (Nat × St)) :=
  (fX10_requireNode σ a1).bind fun v1 => Sum.elim (fun v2 =>
  (fX10_requireMachine σ a2).bind fun v4 => Sum.elim (fun v5 =>
  gd (inb a1 24) <|
  lt (gi σ 21 a1.toNatClampNeg) fun n8 =>
  gd (inb n8 3) <|
  (if (gi σ 22 n8.toNatClampNeg) = 0 then
  fX10_move_j43 σ a1 a2
  else
  gd (inb a2 3) <|
  (if (gi σ 22 a2.toNatClampNeg) = 0 then
  fX10_move_j43 σ a1 a2
  else
  gd (inb a1 24) <|
  lt (ui σ 21 a1.toNatClampNeg a2) fun σ14 =>
  some (.inl (n8, σ14))))) (fun n6 => some (.inr (n6, σ))) v4) (fun n3 => some (.inr (n3, σ))) v1
noncomputable def fX10_toggle_j29 (σ : St) (a1 : Int32) (t0 : Int32) (t1 : Int32) : Option ((Int32 × St) ⊕ (Nat × St)) :=
  gd (inb t1 3) <|
  gd (t0 &&& 1 = t0) <|
  lt (ui σ 22 t1.toNatClampNeg t0) fun σ8 =>
  gd (inb a1 3) <|
  gd ((gi σ8 22 a1.toNatClampNeg) &&& 1 = (gi σ8 22 a1.toNatClampNeg)) <|
  some (.inl ((gi σ8 22 a1.toNatClampNeg), σ8))
noncomputable def fX10_toggle (σ : St) (a1 : Int32) : Option ((Int32 × St) ⊕ (Nat × St)) :=
  (fX10_requireMachine σ a1).bind fun v1 => Sum.elim (fun v2 =>
  gd (inb a1 3) <|
  (if (gi σ 22 a1.toNatClampNeg) = 0 then
  fX10_toggle_j29 σ a1 (1 : Int32) a1
  else
  fX10_toggle_j29 σ a1 (0 : Int32) a1)) (fun n3 => some (.inr (n3, σ))) v1
noncomputable def fX10_machine (σ : St) (a1 : Int32) : Option (Int32 ⊕ Nat) :=
  (fX10_requireNode σ a1).bind fun v1 => Sum.elim (fun v2 =>
  gd (inb a1 24) <|
  some (.inl ((gi σ 21 a1.toNatClampNeg)))) (fun n3 => some (.inr n3)) v1
noncomputable def fX10_copies (σ : St) (a1 : Int32) : Option (Int32 ⊕ Nat) :=
  (fX10_requireMachine σ a1).bind fun v1 => Sum.elim (fun v2 =>
  (fX3_copied σ a1).bind fun v4 =>
  (fJ6_bitCount σ v4).bind fun v5 =>
  some (.inl (v5))) (fun n3 => some (.inr n3)) v1
noncomputable def fX10_begin_l2 (σ : St) (x : (St × Int32)) : Option ((St × Int32) ⊕ ((St × Int32) ⊕ (Int32 × St))) :=
  (if (4 : Int32) ≤ x.2 then
  some (.inr (.inl (x.1, x.2)))
  else
  gd (inb x.2 4) <|
  (if (gi x.1 (57 + 5 * x.2.toNatClampNeg) 4) = 0 then
  gd (inb x.2 4) <|
  (fX9_openAt x.1 x.2.toNatClampNeg (gi x.1 0 11)).bind fun v5 =>
  some (.inr (.inr (x.2, v5)))
  else
  some (.inl (x.1, (x.2 + (1 : Int32))))))
noncomputable def fX10_begin (σ : St) : Option ((Int32 × St) ⊕ (Nat × St)) :=
  (loopF (fX10_begin_l2 σ) (σ, (0 : Int32))).bind fun x6 => Sum.elim (fun x7 =>
  some (.inr (2, x7.1))) (fun r8 => some (.inl (r8))) x6
noncomputable def fX10_requireTransaction_j21 (σ : St) (a1 : Int32) : Option (Unit ⊕ Nat) :=
  some (.inr 0)
noncomputable def fX10_requireTransaction (σ : St) (a1 : Int32) : Option (Unit ⊕ Nat) :=
  (if a1 < 0 then
  fX10_requireTransaction_j21 σ a1
  else
  (if (4 : Int32) ≤ a1 then
  fX10_requireTransaction_j21 σ a1
  else
  gd (inb a1 4) <|
  (if (gi σ (57 + 5 * a1.toNatClampNeg) 4) = 0 then
  fX10_requireTransaction_j21 σ a1
  else
  some (.inl (())))))
noncomputable def fX10_requireSeen (σ : St) (a1 : Int32) (a2 : Int32) : Option (Unit ⊕ Nat) :=
  (fX10_requireTransaction σ a1).bind fun v1 => Sum.elim (fun v2 =>
  gd (inb a1 4) <|
  (fX7_wasThereN σ a2 (gi σ (57 + 5 * a1.toNatClampNeg) 5)).bind fun v5 =>
  (if v5 = 0 then
  some (.inr 0)
  else
  some (.inl (())))) (fun n3 => some (.inr n3)) v1
noncomputable def fX10_write (σ : St) (a1 : Int32) (a2 : Int32) (a3 : Int32) : Option (St ⊕ (Nat × St)) :=
  (fX10_requireSeen σ a1 a2).bind fun v1 => Sum.elim (fun v2 =>
  gd (inb a1 4) <|
  (fX9_putValue σ a1.toNatClampNeg a2 a3).bind fun v5 =>
  some (.inl (v5))) (fun n3 => some (.inr (n3, σ))) v1
noncomputable def fX10_link (σ : St) (a1 : Int32) (a2 : Int32) (a3 : Int32) (a4 : Int32) : Option ((Int32 × St) ⊕ (Nat × St)) :=
  (fX10_requireSeen σ a1 a2).bind fun v1 => Sum.elim (fun v2 =>
  (fX10_requireSeen σ a1 a4).bind fun v4 => Sum.elim (fun v5 =>
  (fX10_requireLabel σ a3).bind fun v7 => Sum.elim (fun v8 =>
  gd (inb a1 4) <|
  (if (gi σ (57 + 5 * a1.toNatClampNeg) 7) < (8 : Int32) then
  (fX9_putLink σ a1.toNatClampNeg a2 a3 a4).bind fun v12 =>
  some (.inl ((gi v12 (57 + 5 * a1.toNatClampNeg) 7), v12))
  else
  some (.inr (2, σ)))) (fun n9 => some (.inr (n9, σ))) v7) (fun n6 => some (.inr (n6, σ))) v4) (fun n3 => some (.inr (n3, σ))) v1
noncomputable def fX10_unlink_j35 (σ : St) (a1 : Int32) (a2 : Int32) : Option (St ⊕ (Nat × St)) :=
  some (.inr (0, σ))
noncomputable def fX10_unlink (σ : St) (a1 : Int32) (a2 : Int32) : Option (St ⊕ (Nat × St)) :=
  (fX10_requireTransaction σ a1).bind fun v1 => Sum.elim (fun v2 =>
  gd (inb a1 4) <|
  (fX7_wasThereE σ a2 (gi σ (57 + 5 * a1.toNatClampNeg) 5)).bind fun v5 =>
  (if v5 = 0 then
  fX10_unlink_j35 σ a1 a2
  else
  (fX9_drops σ a1.toNatClampNeg a2).bind fun v7 =>
  (if v7 = 0 then
  (fX9_putDrop σ a1.toNatClampNeg a2).bind fun v9 =>
  some (.inl (v9))
  else
  fX10_unlink_j35 σ a1 a2))) (fun n3 => some (.inr (n3, σ))) v1
noncomputable def fX10_read (σ : St) (a1 : Int32) (a2 : Int32) : Option (Int32 ⊕ Nat) :=
  (fX10_requireSeen σ a1 a2).bind fun v1 => Sum.elim (fun v2 =>
  gd (inb a1 4) <|
  (fX10_has σ (gi σ (57 + 5 * a1.toNatClampNeg) 6) a2).bind fun v5 =>
  (if v5 = 0 then
  (fX6_valueAsOf σ a2 (gi σ (57 + 5 * a1.toNatClampNeg) 5)).bind fun v7 =>
  some (.inl (v7))
  else
  gd (inb a2 24) <|
  some (.inl ((gi σ (58 + 5 * a1.toNatClampNeg) a2.toNatClampNeg))))) (fun n3 => some (.inr n3)) v1
noncomputable def fX10_sees_j77 (σ : St) (a1 : Int32) (a2 : Int32) (uw3 : Nat) (b4 : Int32) (b5 : Int32) : Option ((Int32 × Int32) ⊕ (Int32 × Int32)) :=
  some (.inl (b4, (b5 + (1 : Int32))))
noncomputable def fX10_sees_l23 (σ : St) (a1 : Int32) (a2 : Int32) (uw3 : Nat) (x : (Int32 × Int32)) : Option ((Int32 × Int32) ⊕ (Int32 × Int32)) :=
  (if (gi σ 10 2) ≤ x.2 then
  some (.inr (x.1, x.2))
  else
  (fX7_wasThereE σ x.2 (gi σ (57 + 5 * uw3) 5)).bind fun v7 =>
  (if v7 = 0 then
  fX10_sees_j77 σ a1 a2 uw3 x.1 x.2
  else
  gd (inb x.2 60) <|
  (if (gi σ 13 x.2.toNatClampNeg) = a2 then
  (fX9_drops σ uw3 x.2).bind fun v11 =>
  (if v11 = 0 then
  fX10_sees_j77 σ a1 a2 uw3 (x.1 + (1 : Int32)) x.2
  else
  fX10_sees_j77 σ a1 a2 uw3 x.1 x.2)
  else
  fX10_sees_j77 σ a1 a2 uw3 x.1 x.2)))
noncomputable def fX10_sees (σ : St) (a1 : Int32) (a2 : Int32) : Option (Int32 ⊕ Nat) :=
  (fX10_requireSeen σ a1 a2).bind fun v1 => Sum.elim (fun v2 =>
  gd (inb a1 4) <|
  (fX9_linksFrom σ a1.toNatClampNeg a2).bind fun v5 =>
  (loopF (fX10_sees_l23 σ a1 a2 a1.toNatClampNeg) (v5, (0 : Int32))).bind fun x13 =>
  some (.inl (x13.1))) (fun n3 => some (.inr n3)) v1
noncomputable def fX10_commit_j28 (σ : St) (a1 : Int32) (a2 : Int32) : Option ((Int32 × St) ⊕ (Nat × St)) :=
  some (.inl ((gi σ 0 11), σ))
noncomputable def fX10_commit (σ : St) (a1 : Int32) (a2 : Int32) : Option ((Int32 × St) ⊕ (Nat × St)) :=
  (fX10_requireTransaction σ a1).bind fun v1 => Sum.elim (fun v2 =>
  gd (inb a1 4) <|
  lt (ui σ (57 + 5 * a1.toNatClampNeg) 4 (0 : Int32)) fun σ5 =>
  (if a2 = 0 then
  fX10_commit_j28 σ5 a1 a2
  else
  (fX9_hasWrites σ5 a1.toNatClampNeg).bind fun v7 =>
  (if v7 = 0 then
  fX10_commit_j28 σ5 a1 a2
  else
  (fX10_clashes σ5 a1.toNatClampNeg).bind fun v9 =>
  (if v9 = 0 then
  (fX10_breaksLaws σ5 a1.toNatClampNeg).bind fun v11 =>
  (if v11.1 = 0 then
  (fX10_writeAll v11.2 a1.toNatClampNeg).bind fun v13 =>
  some (.inl ((gi v13 0 11), v13))
  else
  some (.inl ((-2 : Int32), v11.2)))
  else
  some (.inl ((-1 : Int32), σ5)))))) (fun n3 => some (.inr (n3, σ))) v1
noncomputable def fX10_requireTime_j12 (σ : St) (a1 : Int32) : Option (Unit ⊕ Nat) :=
  some (.inr 1)
noncomputable def fX10_requireTime (σ : St) (a1 : Int32) : Option (Unit ⊕ Nat) :=
  (if a1 < 0 then
  fX10_requireTime_j12 σ a1
  else
  (if a1 ≤ (gi σ 0 11) then
  some (.inl (()))
  else
  fX10_requireTime_j12 σ a1))
noncomputable def fX10_valueAt (σ : St) (a1 : Int32) (a2 : Int32) : Option (Int32 ⊕ Nat) :=
  (fX10_requireTime σ a2).bind fun v1 => Sum.elim (fun v2 =>
  (fX7_wasThereN σ a1 a2).bind fun v4 =>
  (if v4 = 0 then
  some (.inr 0)
  else
  (fX6_valueAsOf σ a1 a2).bind fun v6 =>
  some (.inl (v6)))) (fun n3 => some (.inr n3)) v1
noncomputable def fX10_sizeAt (σ : St) (a1 : Int32) : Option (Int32 ⊕ Nat) :=
  (fX10_requireTime σ a1).bind fun v1 => Sum.elim (fun v2 =>
  (fX7_countAsOfN σ a1).bind fun v4 =>
  (fX7_countAsOfE σ a1).bind fun v5 =>
  some (.inl ((((100 : Int32) * v4) + v5)))) (fun n3 => some (.inr n3)) v1
noncomputable def fX10_step_j9 (σ : St) (a1 : Int32) (a2 : Int32) : Option ((Int32 × St) ⊕ (Nat × St)) :=
  some (.inr (1, σ))
noncomputable def fX10_step_j47 (σ : St) (a1 : Int32) (a2 : Int32) : Option ((Int32 × St) ⊕ (Nat × St)) :=
  gd (inb (gi σ 0 10) 7) <|
  (if (gi σ (78 + 6 * (gi σ 0 10).toNatClampNeg) 5) < (12 : Int32) then
  (fX8_taken σ a1).bind fun v7 =>
  (if v7 ≤ (gi σ (78 + 6 * (gi σ 0 10).toNatClampNeg) 6) then
  (fX8_put σ ((gi σ 0 10).toNatClampNeg) a1 a2).bind fun v9 =>
  some (.inl ((gi v9 (78 + 6 * (gi σ 0 10).toNatClampNeg) 6), v9))
  else
  some (.inr (2, σ)))
  else
  some (.inr (2, σ)))
noncomputable def fX10_step (σ : St) (a1 : Int32) (a2 : Int32) : Option ((Int32 × St) ⊕ (Nat × St)) :=
  (if a1 < 0 then
  fX10_step_j9 σ a1 a2
  else
  (if a1 ≤ (5 : Int32) then
  (if (2 : Int32) < a1 then
  (if a2 = 0 then
  fX10_step_j47 σ a1 a2
  else
  some (.inr (1, σ)))
  else
  (fX10_requireLabel σ a2).bind fun v10 => Sum.elim (fun v11 =>
  fX10_step_j47 σ a1 a2) (fun n12 => some (.inr (n12, σ))) v10)
  else
  fX10_step_j9 σ a1 a2))
noncomputable def fX10_pattern (σ : St) : Option ((Int32 × St) ⊕ (Nat × St)) :=
  (if (gi σ 0 10) < (6 : Int32) then
  gd (inb (gi σ 0 10) 7) <|
  (if (gi σ (78 + 6 * (gi σ 0 10).toNatClampNeg) 6) = (1 : Int32) then
  lt (ui σ 0 10 ((gi σ 0 10) + (1 : Int32))) fun σ4 =>
  some (.inl ((gi σ 0 10), σ4))
  else
  some (.inr (2, σ)))
  else
  some (.inr (2, σ)))
noncomputable def fX10_requirePattern_j12 (σ : St) (a1 : Int32) : Option (Unit ⊕ Nat) :=
  some (.inr 0)
noncomputable def fX10_requirePattern (σ : St) (a1 : Int32) : Option (Unit ⊕ Nat) :=
  (if a1 < 0 then
  fX10_requirePattern_j12 σ a1
  else
  (if a1 < (gi σ 0 10) then
  some (.inl (()))
  else
  fX10_requirePattern_j12 σ a1))
noncomputable def fX10_answer (σ : St) (a1 : Int32) (a2 : Int32) : Option ((Int32 × St) ⊕ (Nat × St)) :=
  (fX10_requirePattern σ a1).bind fun v1 => Sum.elim (fun v2 =>
  (fX10_requireNode σ a2).bind fun v4 => Sum.elim (fun v5 =>
  gd (inb a1 7) <|
  (fX3_reachable σ).bind fun v8 =>
  (fX5_relate σ a1.toNatClampNeg v8).bind fun v9 =>
  gd (v9.1 < 13) <|
  gd (inb a2 24) <|
  some (.inl ((gi v9.2 (40 + v9.1) a2.toNatClampNeg), v9.2))) (fun n6 => some (.inr (n6, σ))) v4) (fun n3 => some (.inr (n3, σ))) v1
noncomputable def fX10_answerAnew (σ : St) (a1 : Int32) (a2 : Int32) : Option (Int32 ⊕ Nat) :=
  (fX10_requirePattern σ a1).bind fun v1 => Sum.elim (fun v2 =>
  (fX10_requireNode σ a2).bind fun v4 => Sum.elim (fun v5 =>
  gd (inb a1 7) <|
  (fX3_reachable σ).bind fun v8 =>
  (fX5_goOn σ a1.toNatClampNeg a2 v8).bind fun v9 =>
  some (.inl (v9))) (fun n6 => some (.inr n6)) v4) (fun n3 => some (.inr n3)) v1
noncomputable def fX10_pairs_l31 (σ : St) (a1 : Int32) (uw2 : Nat) (x : (Int32 × Int32)) : Option ((Int32 × Int32) ⊕ (Int32 × Int32)) :=
  (if (24 : Int32) ≤ x.2 then
  some (.inr (x.1, x.2))
  else
  gd (inb x.2 24) <|
  (fJ6_bitCount σ (gi σ (40 + uw2) x.2.toNatClampNeg)).bind fun v10 =>
  some (.inl ((x.1 + v10), (x.2 + (1 : Int32)))))
noncomputable def fX10_pairs (σ : St) (a1 : Int32) : Option ((Int32 × St) ⊕ (Nat × St)) :=
  (fX10_requirePattern σ a1).bind fun v1 => Sum.elim (fun v2 =>
  gd (inb a1 7) <|
  (fX3_reachable σ).bind fun v5 =>
  (fX5_relate σ a1.toNatClampNeg v5).bind fun v6 =>
  gd (v6.1 < 13) <|
  (loopF (fX10_pairs_l31 v6.2 a1 v6.1) ((0 : Int32), (0 : Int32))).bind fun x11 =>
  some (.inl (x11.1, v6.2))) (fun n3 => some (.inr (n3, σ))) v1
noncomputable def fX10_isWhole (σ : St) (a1 : Int32) (a2 : Int32) : Option ((Int32 × St) ⊕ (Nat × St)) :=
  (fX10_requirePattern σ a1).bind fun v1 => Sum.elim (fun v2 =>
  (fX10_requireNode σ a2).bind fun v4 => Sum.elim (fun v5 =>
  gd (inb a1 7) <|
  (fX3_reachable σ).bind fun v8 =>
  (fX5_relate σ a1.toNatClampNeg v8).bind fun v9 =>
  gd (v9.1 < 13) <|
  gd (inb a2 24) <|
  lt (gi v9.2 (40 + v9.1) a2.toNatClampNeg) fun n12 =>
  gd (inb a1 7) <|
  (fX5_relate v9.2 a1.toNatClampNeg (gi v9.2 1 10)).bind fun v14 =>
  gd (v14.1 < 13) <|
  gd (inb a2 24) <|
  lt (gi v14.2 (40 + v14.1) a2.toNatClampNeg) fun n17 =>
  (if n12 = n17 then
  some (.inl ((1 : Int32), v14.2))
  else
  some (.inl ((0 : Int32), v14.2)))) (fun n6 => some (.inr (n6, σ))) v4) (fun n3 => some (.inr (n3, σ))) v1
noncomputable def fX10_rule (σ : St) (a1 : Int32) (a2 : Int32) (a3 : Int32) : Option ((Int32 × St) ⊕ (Nat × St)) :=
  (fX10_requireLabel σ a1).bind fun v1 => Sum.elim (fun v2 =>
  (fX10_requireLabel σ a2).bind fun v4 => Sum.elim (fun v5 =>
  (fX10_requireLabel σ a3).bind fun v7 => Sum.elim (fun v8 =>
  (if (gi σ 23 7) < (6 : Int32) then
  (fX1_addRule σ a1 a2 a3).bind fun v11 =>
  (fX1_inferAnew v11.2).bind fun v12 =>
  some (.inl (v11.1, v12))
  else
  some (.inr (2, σ)))) (fun n9 => some (.inr (n9, σ))) v7) (fun n6 => some (.inr (n6, σ))) v4) (fun n3 => some (.inr (n3, σ))) v1
noncomputable def fX10_dropRule_j27 (σ : St) (a1 : Int32) : Option ((Int32 × St) ⊕ (Nat × St)) :=
  some (.inr (0, σ))
noncomputable def fX10_dropRule (σ : St) (a1 : Int32) : Option ((Int32 × St) ⊕ (Nat × St)) :=
  (if a1 < 0 then
  fX10_dropRule_j27 σ a1
  else
  (if (gi σ 23 7) ≤ a1 then
  fX10_dropRule_j27 σ a1
  else
  gd (inb a1 6) <|
  (if (gi σ 27 a1.toNatClampNeg) = 0 then
  (fX1_countInferred σ).bind fun v5 =>
  gd (inb a1 6) <|
  lt (ui σ 27 a1.toNatClampNeg (1 : Int32)) fun σ7 =>
  (fX1_inferAnew σ7).bind fun v8 =>
  (fX1_countInferred v8).bind fun v9 =>
  some (.inl ((v5 - v9), v8))
  else
  fX10_dropRule_j27 σ a1)))
noncomputable def fX10_reasons (σ : St) (a1 : Int32) (a2 : Int32) (a3 : Int32) : Option (Int32 ⊕ Nat) :=
  (fX10_requireNode σ a1).bind fun v1 => Sum.elim (fun v2 =>
  (fX10_requireNode σ a3).bind fun v4 => Sum.elim (fun v5 =>
  (fX10_requireLabel σ a2).bind fun v7 => Sum.elim (fun v8 =>
  (fX0_countLike σ a1 a2 a3).bind fun v10 =>
  (fX1_countWays σ a1 a2 a3).bind fun v11 =>
  some (.inl ((v10 + v11)))) (fun n9 => some (.inr n9)) v7) (fun n6 => some (.inr n6)) v4) (fun n3 => some (.inr n3)) v1
noncomputable def fX10_requireSteps_j10 (σ : St) (a0 : Int32) : Option (Unit ⊕ Nat) :=
  some (.inr 1)
noncomputable def fX10_requireSteps (σ : St) (a0 : Int32) : Option (Unit ⊕ Nat) :=
  (if a0 < 0 then
  fX10_requireSteps_j10 σ a0
  else
  (if a0 ≤ (30 : Int32) then
  some (.inl (()))
  else
  fX10_requireSteps_j10 σ a0))
noncomputable def fX10_walk (σ : St) (a1 : Int32) (a2 : Int32) : Option (Int32 ⊕ Nat) :=
  (fX10_requireNode σ a1).bind fun v1 => Sum.elim (fun v2 =>
  (fX10_requireSteps σ a2).bind fun v4 => Sum.elim (fun v5 =>
  (fX10_walkedFrom σ a1 a2).bind fun v7 =>
  some (.inl (v7))) (fun n6 => some (.inr n6)) v4) (fun n3 => some (.inr n3)) v1
noncomputable def fX10_crossings_j86 (σ : St) (a1 : Int32) (a2 : Int32) (ea3 : Int32) (b4 : Int32) (b5 : Int32) : Option ((Int32 × Int32) ⊕ (Int32 × Int32)) :=
  some (.inl (b4, (b5 + (1 : Int32))))
noncomputable def fX10_crossings_l30 (σ : St) (a1 : Int32) (a2 : Int32) (ea3 : Int32) (x : (Int32 × Int32)) : Option ((Int32 × Int32) ⊕ (Int32 × Int32)) :=
  (if (gi σ 10 2) ≤ x.2 then
  some (.inr (x.1, x.2))
  else
  (fX7_isThereE σ x.2).bind fun v10 =>
  (if v10 = 0 then
  fX10_crossings_j86 σ a1 a2 ea3 x.1 x.2
  else
  gd (inb x.2 60) <|
  (fX10_has σ ea3 (gi σ 13 x.2.toNatClampNeg)).bind fun v13 =>
  (if v13 = 0 then
  fX10_crossings_j86 σ a1 a2 ea3 x.1 x.2
  else
  (fX3_isCut σ x.2).bind fun v15 =>
  (if v15 = 0 then
  fX10_crossings_j86 σ a1 a2 ea3 x.1 x.2
  else
  fX10_crossings_j86 σ a1 a2 ea3 (x.1 + (1 : Int32)) x.2))))
noncomputable def fX10_crossings (σ : St) (a1 : Int32) (a2 : Int32) : Option (Int32 ⊕ Nat) :=
  (fX10_requireNode σ a1).bind fun v1 => Sum.elim (fun v2 =>
  (fX10_requireSteps σ a2).bind fun v4 => Sum.elim (fun v5 =>
  (if a2 = 0 then
  some (.inl ((0 : Int32)))
  else
  (fX10_walkedFrom σ a1 (a2 - (1 : Int32))).bind fun v8 =>
  (loopF (fX10_crossings_l30 σ a1 a2 v8) ((0 : Int32), (0 : Int32))).bind fun x17 =>
  some (.inl (x17.1)))) (fun n6 => some (.inr n6)) v4) (fun n3 => some (.inr n3)) v1
noncomputable def fX10_round_j11 (σ : St) (a1 : Int32) : Option ((Int32 × St) ⊕ (Nat × St)) :=
  some (.inr (1, σ))
noncomputable def fX10_round_l24 (σ : St) (a1 : Int32) (x : (St × Int32)) : Option ((St × Int32) ⊕ (St × Int32)) :=
  (if a1 ≤ x.2 then
  some (.inr (x.1, x.2))
  else
  (if (gi x.1 53 3) = 0 then
  some (.inr (x.1, x.2))
  else
  (fX4_sendAll x.1).bind fun v5 =>
  some (.inl (v5, (x.2 + (1 : Int32))))))
noncomputable def fX10_round (σ : St) (a1 : Int32) : Option ((Int32 × St) ⊕ (Nat × St)) :=
  (if a1 < (1 : Int32) then
  fX10_round_j11 σ a1
  else
  (if a1 ≤ (30 : Int32) then
  (loopF (fX10_round_l24 σ a1) (σ, (0 : Int32))).bind fun x6 =>
  (fJ6_bitCount x6.1 (gi x6.1 53 3)).bind fun v7 =>
  some (.inl (v7, x6.1))
  else
  fX10_round_j11 σ a1))
noncomputable def fX10_mark (σ : St) (a1 : Int32) : Option (Int32 ⊕ Nat) :=
  (fX10_requireNode σ a1).bind fun v1 => Sum.elim (fun v2 =>
  gd (inb a1 24) <|
  some (.inl ((gi σ 54 a1.toNatClampNeg)))) (fun n3 => some (.inr n3)) v1
noncomputable def fX10_least_l12 (σ : St) (a1 : Int32) (x : (Int32 × Int32)) : Option ((Int32 × Int32) ⊕ (Int32 × Int32)) :=
  (if (24 : Int32) ≤ x.2 then
  some (.inr (x.1, x.2))
  else
  (fX0_neighbours σ x.1).bind fun v6 =>
  some (.inl ((x.1 ||| v6), (x.2 + (1 : Int32)))))
noncomputable def fX10_least (σ : St) (a1 : Int32) : Option (Int32 ⊕ Nat) :=
  (fX10_requireNode σ a1).bind fun v1 => Sum.elim (fun v2 =>
  (fX10_bit σ a1).bind fun v4 =>
  (loopF (fX10_least_l12 σ a1) (v4, (0 : Int32))).bind fun x7 =>
  (fX10_lowest σ x7.1).bind fun v8 =>
  some (.inl (v8))) (fun n3 => some (.inr n3)) v1
