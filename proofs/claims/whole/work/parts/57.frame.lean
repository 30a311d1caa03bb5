theorem RX_th {N E u : Nat} {x y : St} {c : Int32} (h : RX N E x y u) : RX N E x (th y c) u := by
  unfold RX at *
  simpa [gi_th] using h
theorem RK_th {N : Nat} {x y : St} {c : Int32} (h : RK N x y) : RK N x (th y c) := by
  unfold RK at *
  simpa [gi_th] using h
theorem RR_th {R : Nat} {x y : St} {c : Int32} (h : RR R x y) : RR R x (th y c) := by
  unfold RR at *
  simpa [gi_th] using h
theorem RP_th {x y : St} {c : Int32} (h : RP x y) : RP x (th y c) := by
  unfold RP at *
  simpa [gi_th] using h
theorem RC9_up {c P : Nat} {x : St} (h : RC9 c P x) : RC9 (c + 1) P x := by
  obtain ⟨w, h1, h2⟩ := h
  exact ⟨w, h1, by omega⟩
/-- behind a call that changes nothing -/
theorem Rel_th {c : Nat} {x y : St} (h : Rel c x y) (hc : c < 512) (q : Int32) : Rel (c + 1) x (th y q) := by
  obtain ⟨N, E, T, P, R, h1, -, h2, h3, h4, h5, h6, h7, h8, h9, h10, h11, h12, h13, h14, h15⟩ := h
  exact ⟨N, E, T, P, R, by omega, by omega, RN_th h2, RE_th h3, RT_th h4, RM_th h5, RW_th h6, RG_th h7, fun u hu => RX_th (h8 u hu), RK_th h9, h10, RR_th h11, h12, RP_th h13, h14, RC9_up h15⟩
/-- what each of the 38 calls owes -/
def owes (f : St → St → Int64 → Int32 → Int32 → Int32 → Int32 → Option LL) : Prop := ∀ (c : Nat) (x y : St) (v : Int64) (p1 p2 p3 p4 : Int32), Rel c x y → c < 512 → ∃ z : LL, f x y v p1 p2 p3 p4 = some z ∧ Rel (c + 1) z.1 z.2.1
theorem owes_Q {x y : St} {c : Nat} {zC : Option (Int32 × LX)} {zR : Option (Int32 × St)} (h : Rel c x y) (hc : c < 512) (hq : agQ zC zR x y) : ∃ z : LL, (zC.bind fun z1 => zR.bind fun z2 => (fX11_thrown z2.2).bind fun z3 => if z3 = z1.1 then if z1.1 = 0 then if lg_cmp z1.2.2 z2.1.toInt64 = 0 then some (z1.2.1, z2.2, z1.2.2) else none else some (z1.2.1, z2.2, z1.2.2) else none) = some z ∧ Rel (c + 1) z.1 z.2.1 :=
  law_I (hq.I (Q := fun x' y' => Rel (c + 1) x' y') fun e => Rel_th h hc e)
theorem owes_10 : owes fLaw_c10 := fun c x y v p1 p2 p3 p4 h hc => by
  obtain ⟨N, E, T, P, R, -, -, h2, h3, h4, h5, -⟩ := id h
  exact owes_Q h hc (q_machine h2 h5 p1)
theorem owes_36 : owes fLaw_c36 := fun c x y v p1 p2 p3 p4 h hc => by
  obtain ⟨N, E, T, P, R, -, -, h2, h3, h4, h5, h6, h7, h8, h9, -⟩ := id h
  exact owes_Q h hc (q_mark h2 (fun k hk => (h9.1 k hk).1) p1)
theorem owes_33 : owes fLaw_c33 := fun c x y v p1 p2 p3 p4 h hc => by
  obtain ⟨N, E, T, P, R, -, -, h2, h3, h4, h5, -⟩ := id h
  exact owes_Q h hc (q_walk h2 h3 h5 p1 p2)
theorem owes_34 : owes fLaw_c34 := fun c x y v p1 p2 p3 p4 h hc => by
  obtain ⟨N, E, T, P, R, -, -, h2, h3, h4, h5, -⟩ := id h
  exact owes_Q h hc (q_crossings h2 h3 h5 p1 p2)
theorem owes_37 : owes fLaw_c37 := fun c x y v p1 p2 p3 p4 h hc => by
  obtain ⟨N, E, T, P, R, -, -, h2, h3, h4, h5, -⟩ := id h
  exact owes_Q h hc (q_least h2 h3 p1)
theorem owes_12 : owes fLaw_c12 := fun c x y v p1 p2 p3 p4 h hc => by
  obtain ⟨N, E, T, P, R, -, -, h2, h3, h4, h5, -⟩ := id h
  exact owes_Q h hc (q_copies h2 h3 h5 p1)
theorem owes_22 : owes fLaw_c22 := fun c x y v p1 p2 p3 p4 h hc => by
  obtain ⟨N, E, T, P, R, -, -, h2, h3, h4, h5, -⟩ := id h
  exact owes_Q h hc (q_sizeAt h2 h3 h4 p1)
theorem owes_21 : owes fLaw_c21 := fun c x y v p1 p2 p3 p4 h hc => by
  obtain ⟨N, E, T, P, R, -, -, h2, h3, h4, h5, h6, h7, -⟩ := id h
  exact owes_Q h hc (q_valueAt h2 h7 h4 p1 p2)
theorem owes_20 : owes fLaw_c20 := fun c x y v p1 p2 p3 p4 h hc => by
  obtain ⟨N, E, T, P, R, -, -, h2, h3, h4, -⟩ := id h
  refine ⟨(x, th y 0, v), ?_, Rel_th h hc 0⟩
  unfold fLaw_c20 fX10_time fX11_time
  show (if gi x 0 11 = gi (th y 0) 0 0 then some (x, th y 0, v) else none) = _
  rw [if_pos (h4.2.1.trans (RT_th h4).2.2.symm)]
theorem owes_11 : owes fLaw_c11 := fun c x y v p1 p2 p3 p4 h hc => by
  obtain ⟨N, E, T, P, R, -, -, h2, h3, h4, h5, -⟩ := id h
  refine ⟨(x, th y 0, v), ?_, Rel_th h hc 0⟩
  have e : fX11_cut y = (fX11_cuts (th y 0)).bind fun q => some (q, th y 0) := rfl
  unfold fLaw_c11
  rw [c_cut h2.1 h3, some_bind, e, r_cuts h2.1 (RE_th h3) (RM_th h5).1, some_bind, some_bind, if_pos rfl]
/-- the law goes through, if each call does -/
theorem lawOK_of (h : ∀ (c : Nat) (x y : St) (v : Int64) (o p1 p2 p3 p4 : Int32), Rel c x y → c < 512 → ∃ z : LL, fLaw_step x y v o p1 p2 p3 p4 = some z ∧ Rel (c + 1) z.1 z.2.1) (xs : Nat → Int32) : ∀ (k j : Nat) (x : LL), j + k ≤ 512 → Rel j x.1 x.2.1 → lawOK xs k j x
  | 0, _, _, _, _ => trivial
  | k + 1, j, x, hj, hx => by
    obtain ⟨z, h1, h2⟩ := h j x.1 x.2.1 x.2.2 (xs (5 * j) &&& 63) (xs (5 * j + 1)) (xs (5 * j + 2)) (xs (5 * j + 3)) (xs (5 * j + 4)) hx (by omega)
    exact ⟨z, h1, lawOK_of h xs k (j + 1) z (by omega) h2⟩
