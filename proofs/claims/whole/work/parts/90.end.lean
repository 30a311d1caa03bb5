/-! ### the law's step, and the claim out of it -/
theorem step_ok (c : Nat) (x y : St) (v : Int64) (o p1 p2 p3 p4 : Int32) (h : Rel c x y) (hc : c < 512) : ∃ z : LL, fLaw_step x y v o p1 p2 p3 p4 = some z ∧ Rel (c + 1) z.1 z.2.1 := by
  unfold fLaw_step
  by_cases e0 : o = 0
  · rw [if_pos e0]
    exact owes_0 c x y v p1 p2 p3 p4 h hc
  rw [if_neg e0]
  by_cases e1 : o = 1
  · rw [if_pos e1]
    exact owes_1 c x y v p1 p2 p3 p4 h hc
  rw [if_neg e1]
  by_cases e2 : o = 2
  · rw [if_pos e2]
    exact owes_2 c x y v p1 p2 p3 p4 h hc
  rw [if_neg e2]
  by_cases e3 : o = 3
  · rw [if_pos e3]
    exact owes_3 c x y v p1 p2 p3 p4 h hc
  rw [if_neg e3]
  by_cases e4 : o = 4
  · rw [if_pos e4]
    exact owes_4 c x y v p1 p2 p3 p4 h hc
  rw [if_neg e4]
  by_cases e5 : o = 5
  · rw [if_pos e5]
    exact owes_5 c x y v p1 p2 p3 p4 h hc
  rw [if_neg e5]
  by_cases e6 : o = 6
  · rw [if_pos e6]
    exact owes_6 c x y v p1 p2 p3 p4 h hc
  rw [if_neg e6]
  by_cases e7 : o = 7
  · rw [if_pos e7]
    exact owes_7 c x y v p1 p2 p3 p4 h hc
  rw [if_neg e7]
  by_cases e8 : o = 8
  · rw [if_pos e8]
    exact owes_8 c x y v p1 p2 p3 p4 h hc
  rw [if_neg e8]
  by_cases e9 : o = 9
  · rw [if_pos e9]
    exact owes_9 c x y v p1 p2 p3 p4 h hc
  rw [if_neg e9]
  by_cases e10 : o = 10
  · rw [if_pos e10]
    exact owes_10 c x y v p1 p2 p3 p4 h hc
  rw [if_neg e10]
  by_cases e11 : o = 11
  · rw [if_pos e11]
    exact owes_11 c x y v p1 p2 p3 p4 h hc
  rw [if_neg e11]
  by_cases e12 : o = 12
  · rw [if_pos e12]
    exact owes_12 c x y v p1 p2 p3 p4 h hc
  rw [if_neg e12]
  by_cases e13 : o = 13
  · rw [if_pos e13]
    exact owes_13 c x y v p1 p2 p3 p4 h hc
  rw [if_neg e13]
  by_cases e14 : o = 14
  · rw [if_pos e14]
    exact owes_14 c x y v p1 p2 p3 p4 h hc
  rw [if_neg e14]
  by_cases e15 : o = 15
  · rw [if_pos e15]
    exact owes_15 c x y v p1 p2 p3 p4 h hc
  rw [if_neg e15]
  by_cases e16 : o = 16
  · rw [if_pos e16]
    exact owes_16 c x y v p1 p2 p3 p4 h hc
  rw [if_neg e16]
  by_cases e17 : o = 17
  · rw [if_pos e17]
    exact owes_17 c x y v p1 p2 p3 p4 h hc
  rw [if_neg e17]
  by_cases e18 : o = 18
  · rw [if_pos e18]
    exact owes_18 c x y v p1 p2 p3 p4 h hc
  rw [if_neg e18]
  by_cases e19 : o = 19
  · rw [if_pos e19]
    exact owes_19 c x y v p1 p2 p3 p4 h hc
  rw [if_neg e19]
  by_cases e20 : o = 20
  · rw [if_pos e20]
    exact owes_20 c x y v p1 p2 p3 p4 h hc
  rw [if_neg e20]
  by_cases e21 : o = 21
  · rw [if_pos e21]
    exact owes_21 c x y v p1 p2 p3 p4 h hc
  rw [if_neg e21]
  by_cases e22 : o = 22
  · rw [if_pos e22]
    exact owes_22 c x y v p1 p2 p3 p4 h hc
  rw [if_neg e22]
  by_cases e23 : o = 23
  · rw [if_pos e23]
    exact owes_23 c x y v p1 p2 p3 p4 h hc
  rw [if_neg e23]
  by_cases e24 : o = 24
  · rw [if_pos e24]
    exact owes_24 c x y v p1 p2 p3 p4 h hc
  rw [if_neg e24]
  by_cases e25 : o = 25
  · rw [if_pos e25]
    exact owes_25 c x y v p1 p2 p3 p4 h hc
  rw [if_neg e25]
  by_cases e26 : o = 26
  · rw [if_pos e26]
    exact owes_26 c x y v p1 p2 p3 p4 h hc
  rw [if_neg e26]
  by_cases e27 : o = 27
  · rw [if_pos e27]
    exact owes_27 c x y v p1 p2 p3 p4 h hc
  rw [if_neg e27]
  by_cases e28 : o = 28
  · rw [if_pos e28]
    exact owes_28 c x y v p1 p2 p3 p4 h hc
  rw [if_neg e28]
  by_cases e29 : o = 29
  · rw [if_pos e29]
    exact owes_29 c x y v p1 p2 p3 p4 h hc
  rw [if_neg e29]
  by_cases e30 : o = 30
  · rw [if_pos e30]
    exact owes_30 c x y v p1 p2 p3 p4 h hc
  rw [if_neg e30]
  by_cases e31 : o = 31
  · rw [if_pos e31]
    exact owes_31 c x y v p1 p2 p3 p4 h hc
  rw [if_neg e31]
  by_cases e32 : o = 32
  · rw [if_pos e32]
    exact owes_32 c x y v p1 p2 p3 p4 h hc
  rw [if_neg e32]
  by_cases e33 : o = 33
  · rw [if_pos e33]
    exact owes_33 c x y v p1 p2 p3 p4 h hc
  rw [if_neg e33]
  by_cases e34 : o = 34
  · rw [if_pos e34]
    exact owes_34 c x y v p1 p2 p3 p4 h hc
  rw [if_neg e34]
  by_cases e35 : o = 35
  · rw [if_pos e35]
    exact owes_35 c x y v p1 p2 p3 p4 h hc
  rw [if_neg e35]
  by_cases e36 : o = 36
  · rw [if_pos e36]
    exact owes_36 c x y v p1 p2 p3 p4 h hc
  rw [if_neg e36]
  by_cases e37 : o = 37
  · rw [if_pos e37]
    exact owes_37 c x y v p1 p2 p3 p4 h hc
  rw [if_neg e37]
  exact ⟨(x, y, v), rfl, Rel_up h hc⟩
theorem whole_start {p : Program} {e : Env} {s : State} {m : MethodId} {below : List Frame} {meth : Method} {c : Code} (l : Launch) (hflags : l.flags = flags0) {b L : Nat} {xs : Nat → Int32} (hL : L ≤ 2560) (C0 : lw_At p s m meth c b L xs) : W p l e room_1 s m #[Value.ref b] below meth c s.heap [] 0 0 (lw_Z below #[Value.ref b] s) (entryFrame m ([Value.ref b] : List Value).toArray 7) :=
  law_start l hflags hL C0 (lawOK_of step_ok xs (L / 5) 0 (cr0, r0, 0) (by omega) Rel_0)
