/-! ===== PURE: calls, ninth: feed ===== -/
theorem Rel.byte {VC VM : VV} (h : Rel VC VM) (t : Nat) {b : Nat} (hb : b < 256) : Rel (wI VC 26 t (nI b)) (wI VM 6 t (nI b)) := by
  obtain ⟨⟨n0, a1, a2, a3, a4⟩, ⟨z1, z2, z3, z4, z5⟩, ⟨k1, k2⟩, ⟨t1, t2, t3, t4⟩, f, s⟩ := h
  have e : ∀ d, d ≠ 6 → (wI VM 6 t (nI b)).1 d = VM.1 d := fun d h => wI_ne h
  have g : ∀ d, d ≠ 26 → (wI VC 26 t (nI b)).1 d = VC.1 d := fun d h => wI_ne h
  have r : ∀ j, j < 3 → rowC j (wI VC 26 t (nI b)) = rowC j VC := fun j hj => rowC_far VC hj (by decide)
  refine ⟨⟨n0, by rw [e 1 (by decide), r 0 (by decide)]; exact a1, by rw [e 1 (by decide)]; exact a2, by rw [e 1 (by decide)]; exact a3, by rw [e 1 (by decide)]; exact a4⟩, ⟨by rw [e 2 (by decide)]; exact z1, by rw [e 3 (by decide)]; exact z2, by rw [e 4 (by decide)]; exact z3, by rw [r 1 (by decide)]; exact z4, by rw [r 2 (by decide)]; exact z5⟩, ⟨by rw [e 0 (by decide), g 24 (by decide)]; exact k1, by rw [e 0 (by decide), e 2 (by decide), r 2 (by decide)]; exact k2⟩, ⟨by rw [e 0 (by decide), g 25 (by decide)]; exact t1, by rw [e 0 (by decide)]; exact t2, by rw [wI_eq, wI_eq, t3], fun k => ?_⟩, ?_, fun q hq => ?_⟩
  · rw [wI_eq]
    by_cases q : k = t
    · rw [q, upd_eq]; exact ⟨b, hb, rfl⟩
    · rw [upd_ne q]; exact t4 k
  · show (wI VC 26 t (nI b)).1 28 = (wI VM 6 t (nI b)).1 5
    rw [g 28 (by decide), e 5 (by decide)]; exact f
  · rw [e 7 (by decide), e 8 (by decide), g _ (show 29 + 2 * q ≠ 26 by omega), wI_2, wI_2]; exact s q hq
theorem feed_loop (x : Int32) : ∀ m fuel VC VM t, Rel VC VM → VM.1 0 9 = nI t → t + m ≤ 120 → m < fuel → ∃ VC' VM', f_X2_append_L4 fuel x (nI m - 1) VC = some VC' ∧ f_X4_feed_L41 fuel x (nI m - 1) VM = some (VM'.1 0 9, VM') ∧ Rel VC' VM' := by
  intro m
  induction m with
  | zero =>
    intro fuel VC VM t h ht hm hf
    obtain ⟨f, rfl⟩ : ∃ f, fuel = f + 1 := ⟨fuel - 1, by omega⟩
    have e : nI 0 - 1 < 0 := by decide
    rw [f_X2_append_L4, f_X4_feed_L41, if_pos e, if_pos e]
    exact ⟨_, _, rfl, rfl, h⟩
  | succ m ih =>
    intro fuel VC VM t h ht hm hf
    obtain ⟨f, rfl⟩ : ∃ f, fuel = f + 1 := ⟨fuel - 1, by omega⟩
    have hC : VC.1 25 0 = nI t := by rw [h.2.2.2.1.1]; exact ht
    obtain ⟨b, hb, eb⟩ := pk_andE (x >>> ((8 * nI m) &&& 31)) (m := 255) 8 (by decide)
    have e1 : nI m + (-1) = nI m - 1 := (Int32.sub_eq_add_neg _ _).symm
    rw [nI_pred, f_X2_append_L4, f_X4_feed_L41, if_neg (nI_pos (show m < 2 ^ 31 by omega)), if_neg (nI_pos (show m < 2 ^ 31 by omega)), hC, ht, if_neg (show ¬ (120 : Int32) ≤ nI t from nI_ge (b := 120) (by omega) (by decide)), inb_nI (show t < 120 by omega) (by decide), itt, itt, cl_nI (show t < 2 ^ 31 by omega), eb, e1, bV_e, bV_e, bV_e, bV_e, wI_ne (show 25 ≠ 26 by decide), hC, wI_ne (show 0 ≠ 6 by decide), ht, nI_succ']
    exact ih f _ _ (t + 1) ((h.byte t (by omega)).tape0 (by omega)) (by rw [wI_eq, upd_eq]) (by omega) (by omega)
theorem op_feed {VC VM : VV} (h : Rel VC VM) (x a : Int32) : Both (f_X3_feed x a VC) (f_X4_feed x a VM) := by
  unfold f_X3_feed f_X4_feed
  by_cases h1 : a < 1
  · rw [if_pos h1, m_inN a 1 4 (by decide) (by decide) VM (Or.inl h1)]
    simp only [k_find0, m_find0, Option.bind_some, if_true, eq_self]
    exact fd_both h _ 0
  · rw [if_neg h1]
    by_cases h4 : a ≤ 4
    · obtain ⟨m, hm1, hm4, rfl⟩ : ∃ m : Nat, 1 ≤ m ∧ m ≤ 4 ∧ a = nI m := by
        rcases rng a 5 (by decide) with (hh | hh) | ⟨j, hj, rfl⟩
        · exact absurd (Int32.lt_trans hh (show (0 : Int32) < 1 by decide)) h1
        · exact absurd h4 (Int32.not_le.mpr (lt_of_le_succ (N := 4) (by decide) hh))
        · refine ⟨j, ?_, by omega, rfl⟩
          rcases Nat.eq_zero_or_pos j with rfl | hp
          · exact absurd (show nI 0 < 1 by decide) h1
          · exact hp
      obtain ⟨t, ht120, ht⟩ := h.2.2.2.1.2.1
      have hC : VC.1 25 0 = nI t := by rw [h.2.2.2.1.1]; exact ht
      rw [if_pos h4, m_inY (nI m) 1 4 (by decide) (by decide) VM h1 (Int32.not_lt.mpr h4), Option.bind_some]
      dsimp only
      rw [if_neg (show ¬ (1 : Int32) = 0 by decide), hC, ht, show (120 : Int32) - nI m = nI (120 - m) from pk_sub (a := 120) (by omega), nI_add]
      by_cases hh : t + m ≤ 120
      · rw [if_pos (nI_le (show t ≤ 120 - m by omega) (by omega)), if_pos (show nI (t + m) ≤ (120 : Int32) from nI_le (b := 120) hh (by decide))]
        unfold f_X2_append
        obtain ⟨VC', VM', e1, e2, e3⟩ := feed_loop x m 200 VC VM t h ht hh (by omega)
        rw [e1, e2, Option.bind_some]
        have e4 : VC'.1 25 0 = VM'.1 0 9 := e3.2.2.2.1.1
        rw [e4]
        exact ⟨_, _, _, rfl, rfl, e3⟩
      · rw [if_neg (nI_ge (show 120 - m < t by omega) (by omega)), if_neg (show ¬ nI (t + m) ≤ (120 : Int32) from nI_ge (a := 120) (by omega) (by omega))]
        simp only [k_find1, m_find1, Option.bind_some]
        exact fd_both h _ 1
    · rw [if_neg h4, m_inN a 1 4 (by decide) (by decide) VM (Or.inr (Int32.not_le.mp h4))]
      simp only [k_find0, m_find0, Option.bind_some, if_true, eq_self]
      exact fd_both h _ 0
