theorem Rel_mM {N c : Nat} {x y x' y' : St} {q : Int32} (h : Rel c x y) (hc : c < 512) (hN : ∀ M, RN M x y → M = N) (hm : mM N x y x' y' q) : Rel (c + 1) x' y' := by
  rcases hm with ⟨rfl, rfl⟩ | ⟨k, m, hk, hm, rfl, rfl⟩ | ⟨m, b, hm, rfl, rfl⟩
  · exact Rel_th h hc q
  · refine Rel_M h hc (fun a j h1 h2 => gi_ui_ne (Or.inl h1)) (fun a j => rfl) (fun a j h1 h2 h3 => ?_) (fun M hM _ => RM_mvd (RM_th hM) k m hm)
    rw [gi_ui_ne (Or.inl h1), gi_th, if_neg h3]
  · refine Rel_M h hc (fun a j h1 h2 => gi_ui_ne (Or.inl h2)) (fun a j => rfl) (fun a j h1 h2 h3 => ?_) (fun M hM _ => ?_)
    · rw [gi_ui_ne (Or.inl h2), gi_th, if_neg h3]
    · have hM := RM_th (c := q) hM
      refine ⟨fun j => ?_, fun j hj => ?_, fun j hj => ?_⟩
      · rw [gi_ui_ne (Or.inl (by decide)), gi_ui_ne (Or.inl (by decide))]
        exact hM.1 j
      · rw [gi_ui_ne (Or.inl (by decide))]
        exact hM.2.1 j hj
      · by_cases e : j = m
        · subst e
          exact ⟨b, gi_ui_eq, gi_ui_eq⟩
        · rw [gi_ui_ne (Or.inr e), gi_ui_ne (Or.inr e)]
          exact hM.2.2 j hj
theorem RN_one {N M : Nat} {x y : St} (h1 : RN N x y) (h2 : RN M x y) : M = N := by
  have e := h2.2.1.symm.trans h1.2.1
  have a := h1.1
  have b := h2.1
  rw [n_inj (by omega) (by omega)] at e
  exact e
theorem owes_9 : owes fLaw_c9 := fun c x y v p1 p2 p3 p4 h hc => by
  obtain ⟨N, E, T, P, R, -, -, h2, h3, h4, h5, -⟩ := id h
  have e := q_toggle (v := v) h5 p1
  refine law_Z (Q := fun x' y' => Rel (c + 1) x' y') ?_
  obtain ⟨c', x', v', b, y', e1, e2, e3, e4, q, e5⟩ := e
  exact ⟨c', x', v', b, y', e1, e2, e3, e4, Rel_mM h hc (fun M hM => RN_one h2 hM) e5⟩
theorem owes_7 : owes fLaw_c7 := fun c x y v p1 p2 p3 p4 h hc => by
  obtain ⟨N, E, T, P, R, -, -, h2, h3, h4, h5, -⟩ := id h
  have e := q_move (v := v) h2 h5 p1 p2
  refine law_I (Q := fun x' y' => Rel (c + 1) x' y') ?_
  obtain ⟨c', x', v', b, y', e1, e2, e3, e4, q, e5⟩ := e
  exact ⟨c', x', v', b, y', e1, e2, e3, e4, Rel_mM h hc (fun M hM => RN_one h2 hM) e5⟩
theorem owes_8 : owes fLaw_c8 := fun c x y v p1 p2 p3 p4 h hc => by
  obtain ⟨N, E, T, P, R, -, -, h2, h3, h4, h5, -⟩ := id h
  obtain ⟨r, x', y', e1, e2, e3⟩ := q_shift h2 h3 h5
  refine ⟨(x', y', v), ?_, ?_⟩
  · unfold fLaw_c8
    rw [e1, some_bind, e2, some_bind, if_pos rfl]
  · refine Rel_mM (N := N) (q := 0) h hc (fun M hM => RN_one h2 hM) ?_
    rcases e3 with ⟨rfl, rfl⟩ | e4
    · exact Or.inl ⟨rfl, rfl⟩
    · exact Or.inr (Or.inl e4)
