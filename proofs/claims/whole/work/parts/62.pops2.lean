/-! ===== PURE: calls, second ===== -/
theorem fd_both {VC VM : VV} (h : Rel VC VM) (r : Int32) (i : Nat) : Both (some (r, fdC i VC)) (some (r, fdM i VM)) := ⟨_, _, _, rfl, rfl, h.find i⟩
theorem Rel.flag {VC VM : VV} (h : Rel VC VM) : Rel (wI VC 24 3 0) (wI VM 0 5 0) := by
  obtain ⟨⟨n0, a1, a2, a3, a4⟩, ⟨z1, z2, z3, z4, z5⟩, ⟨k1, k2⟩, ⟨t1, t2, t3, t4⟩, f, s⟩ := h
  have e : ∀ d, d ≠ 0 → (wI VM 0 5 0).1 d = VM.1 d := fun d h => wI_ne h
  have g : ∀ d, d ≠ 24 → (wI VC 24 3 0).1 d = VC.1 d := fun d h => wI_ne h
  have r : ∀ j, j < 3 → rowC j (wI VC 24 3 0) = rowC j VC := fun j hj => rowC_far VC hj (by decide)
  have e9 : (wI VM 0 5 0).1 0 9 = VM.1 0 9 := by rw [wI_eq, upd_ne (by decide)]
  refine ⟨⟨n0, by rw [e 1 (by decide), r 0 (by decide)]; exact a1, by rw [e 1 (by decide)]; exact a2, by rw [e 1 (by decide)]; exact a3, by rw [e 1 (by decide)]; exact a4⟩, ⟨by rw [e 2 (by decide)]; exact z1, by rw [e 3 (by decide)]; exact z2, by rw [e 4 (by decide)]; exact z3, by rw [r 1 (by decide)]; exact z4, by rw [r 2 (by decide)]; exact z5⟩, ⟨by rw [wI_eq, wI_eq, upd_eq, upd_eq], Or.inl (by rw [wI_eq, upd_eq])⟩, ⟨by rw [e9, g 25 (by decide)]; exact t1, by rw [e9]; exact t2, by rw [e 6 (by decide), g 26 (by decide)]; exact t3, by rw [e 6 (by decide)]; exact t4⟩, ?_, fun q hq => ?_⟩
  · show (wI VC 24 3 0).1 28 = (wI VM 0 5 0).1 5
    rw [e 5 (by decide), g 28 (by decide)]; exact f
  · rw [e 7 (by decide), e 8 (by decide), g _ (show 29 + 2 * q ≠ 24 by omega), wI_2, wI_2]; exact s q hq
theorem op_tear {VC VM : VV} (h : Rel VC VM) : Both (f_X3_tear VC) (f_X4_tear VM) := by
  unfold f_X3_tear f_X4_tear
  rw [h.2.2.1.1]
  by_cases h0 : VM.1 0 5 = 0
  · rw [if_pos h0, if_pos h0]; exact ⟨_, _, _, rfl, rfl, h.flag⟩
  · rw [if_neg h0, if_neg h0]; exact ⟨_, _, _, rfl, rfl, h.flag⟩
theorem Rel.tape0 {VC VM : VV} (h : Rel VC VM) {t : Nat} (ht : t ≤ 120) : Rel (wI VC 25 0 (nI t)) (wI VM 0 9 (nI t)) := by
  obtain ⟨⟨n0, a1, a2, a3, a4⟩, ⟨z1, z2, z3, z4, z5⟩, ⟨k1, k2⟩, ⟨t1, t2, t3, t4⟩, f, s⟩ := h
  have e : ∀ d, d ≠ 0 → (wI VM 0 9 (nI t)).1 d = VM.1 d := fun d h => wI_ne h
  have g : ∀ d, d ≠ 25 → (wI VC 25 0 (nI t)).1 d = VC.1 d := fun d h => wI_ne h
  have r : ∀ j, j < 3 → rowC j (wI VC 25 0 (nI t)) = rowC j VC := fun j hj => rowC_far VC hj (by decide)
  have e5 : (wI VM 0 9 (nI t)).1 0 5 = VM.1 0 5 := by rw [wI_eq, upd_ne (by decide)]
  refine ⟨⟨n0, by rw [e 1 (by decide), r 0 (by decide)]; exact a1, by rw [e 1 (by decide)]; exact a2, by rw [e 1 (by decide)]; exact a3, by rw [e 1 (by decide)]; exact a4⟩, ⟨by rw [e 2 (by decide)]; exact z1, by rw [e 3 (by decide)]; exact z2, by rw [e 4 (by decide)]; exact z3, by rw [r 1 (by decide)]; exact z4, by rw [r 2 (by decide)]; exact z5⟩, ⟨by rw [e5, g 24 (by decide)]; exact k1, by rw [e5, r 2 (by decide), e 2 (by decide)]; exact k2⟩, ⟨by rw [wI_eq, wI_eq, upd_eq, upd_eq], ⟨t, ht, by rw [wI_eq, upd_eq]⟩, by rw [e 6 (by decide), g 26 (by decide)]; exact t3, by rw [e 6 (by decide)]; exact t4⟩, ?_, fun q hq => ?_⟩
  · show (wI VC 25 0 (nI t)).1 28 = (wI VM 0 9 (nI t)).1 5
    rw [e 5 (by decide), g 28 (by decide)]; exact f
  · rw [e 7 (by decide), e 8 (by decide), g _ (show 29 + 2 * q ≠ 25 by omega), wI_2, wI_2]; exact s q hq
theorem op_wipe {VC VM : VV} (h : Rel VC VM) : Both (f_X3_wipe VC) (f_X4_wipe VM) := by
  unfold f_X3_wipe f_X4_wipe
  rw [h.2.2.2.1.1]
  exact ⟨_, _, _, rfl, rfl, h.tape0 (t := 0) (by decide)⟩
theorem op_image {VC VM : VV} (h : Rel VC VM) : Both (f_X3_image VC) (f_X4_image VM) := by
  have hh := h
  obtain ⟨⟨n0, a1, a2, a3, a4⟩, ⟨z1, z2, z3, z4, z5⟩, ⟨k1, k2⟩, ⟨t1, t2, t3, t4⟩, f, s⟩ := h
  unfold f_X3_image
  rw [k_takeFrom (by decide) VC (by rw [a1]; exact a4) z5, m_image VM a4 z1]
  refine ⟨_, _, _, rfl, rfl, ?_⟩
  have e : ∀ d, d ≠ 0 → d ≠ 2 → (wI (sR VM 2 (VM.1 1)) 0 5 1).1 d = VM.1 d := fun d h h2 => by rw [wI_ne h, sR_ne _ _ h2]
  have g : ∀ d, d ≠ 24 → 24 ≤ d → (wI (pR 2 VC (rowC 0 VC)) 24 3 1).1 d = VC.1 d := fun d h h2 => by rw [wI_ne h, pR_far _ _ (by decide) h2]
  have r : ∀ j, j < 3 → rowC j (wI (pR 2 VC (rowC 0 VC)) 24 3 1) = rowC j (pR 2 VC (rowC 0 VC)) := fun j hj => rowC_far _ hj (by decide)
  have r0 := (r 0 (by decide)).trans (rowC_pR_ne (by decide) VC (rowC 0 VC))
  have r1 := (r 1 (by decide)).trans (rowC_pR_ne (by decide) VC (rowC 0 VC))
  have r2 := (r 2 (by decide)).trans (rowC_pR 2 VC (rowC 0 VC))
  have e9 : (wI (sR VM 2 (VM.1 1)) 0 5 1).1 0 9 = VM.1 0 9 := by rw [wI_eq, upd_ne (by decide), sR_ne _ _ (by decide)]
  have e2 : (wI (sR VM 2 (VM.1 1)) 0 5 1).1 2 = VM.1 1 := by rw [wI_ne (by decide), sR_eq]
  refine ⟨⟨n0, by rw [e 1 (by decide) (by decide), r0]; exact a1, by rw [e 1 (by decide) (by decide)]; exact a2, by rw [e 1 (by decide) (by decide)]; exact a3, by rw [e 1 (by decide) (by decide)]; exact a4⟩, ⟨by rw [e2]; exact a4, by rw [e 3 (by decide) (by decide)]; exact z2, by rw [e 4 (by decide) (by decide)]; exact z3, by rw [r1]; exact z4, by rw [r2, a1]; exact a4⟩, ⟨by rw [wI_eq, wI_eq, upd_eq, upd_eq], Or.inr ⟨by rw [r2, e2, a1], by rw [e2]; exact a3, n0, by rw [e2]; exact a2⟩⟩, ⟨by rw [e9, g 25 (by decide) (by decide)]; exact t1, by rw [e9]; exact t2, by rw [e 6 (by decide) (by decide), g 26 (by decide) (by decide)]; exact t3, by rw [e 6 (by decide) (by decide)]; exact t4⟩, ?_, fun q hq => ?_⟩
  · show (wI (pR 2 VC (rowC 0 VC)) 24 3 1).1 28 = (wI (sR VM 2 (VM.1 1)) 0 5 1).1 5
    rw [e 5 (by decide) (by decide), g 28 (by decide) (by decide)]; exact f
  · rw [e 7 (by decide) (by decide), e 8 (by decide) (by decide), g _ (show 29 + 2 * q ≠ 24 by omega) (by omega), wI_2, wI_2, pR_2, sR_2]; exact s q hq
theorem op_undo {VC VM : VV} (h : Rel VC VM) : Both (f_X3_undo VC) (f_X4_undo VM) := by
  have hh := h
  obtain ⟨⟨n0, a1, a2, a3, a4⟩, ⟨z1, z2, z3, z4, z5⟩, ⟨k1, k2⟩, -, -, -⟩ := h
  unfold f_X3_undo f_X4_undo
  rw [k1]
  by_cases h0 : VM.1 0 5 = 0
  · rw [if_pos h0, if_pos h0, k_find3, m_find3]
    exact fd_both hh _ 3
  · rw [if_neg h0, if_neg h0]
    obtain ⟨b1, b2, m, b3⟩ := k2.resolve_left h0
    rw [k_takeFrom (by decide) VC z5 (by rw [a1]; exact a4), m_undoL VM z1 a4, b1]
    simp only [Option.bind_some, if_true, if_false, one0, eq_self, bV, itt, pR_n]
    exact ⟨_, _, _, rfl, rfl, hh.row b3 b2 z1⟩
theorem op_count {VC VM : VV} (h : Rel VC VM) (a : Int32) : Both (f_X3_count a VC) (f_X4_count a VM) := by
  obtain ⟨n, R, hw, hf, hz, eC, eM, -, -⟩ := h.at
  have hR : Rel (pR 0 VC R) (mR VM R) := by rw [eC, eM]; exact h
  unfold f_X3_count f_X4_count
  rw [← eC, ← eM]
  obtain ⟨f, hf1, hf2⟩ := hf
  simp only [inb0, inb2, tn0, tn2, mR_1, pR_n, pR_f, itt, hf2, k_bitCount _ (show f < 2 ^ 24 by omega), m_ones _ (show f < 2 ^ 24 by omega), k_keptSet 0 VC hw.1 hw.2.1, m_thoseKept VM hw.1 hw.2.1, cnt_ok (kpB R) hw.1, k_find0, m_find0, Option.bind_some]
  have e : (pR 0 VC R).1 25 0 = (mR VM R).1 0 9 := by rw [eC, eM]; exact h.2.2.2.1.1
  rw [e]
  by_cases h0 : a = 0
  · rw [if_pos h0, if_pos h0]; exact ⟨_, _, _, rfl, rfl, hR⟩
  · rw [if_neg h0, if_neg h0]
    by_cases h1 : a = 1
    · rw [if_pos h1, if_pos h1]; exact ⟨_, _, _, rfl, rfl, hR⟩
    · rw [if_neg h1, if_neg h1]
      by_cases h2 : a = 2
      · rw [if_pos h2, if_pos h2]; exact ⟨_, _, _, rfl, rfl, hR⟩
      · rw [if_neg h2, if_neg h2]
        by_cases h3 : a = 3
        · rw [if_pos h3, if_pos h3]; exact ⟨_, _, _, rfl, rfl, hR⟩
        · rw [if_neg h3, if_neg h3]; exact ⟨_, _, _, rfl, rfl, hR.find 0⟩
def sumR (F : Nat → Int32) : Nat → Int32
  | 0 => 0
  | n + 1 => sumR F n + F n
theorem inb7 {k : Nat} (h : k < 7) : inb (nI k) 7 = true := inb_nI h (by decide)
theorem k_stat (V : VV) : f_X3_status_L33 200 0 0 V = some (sumR (V.1 28) 7, V) := by
  have key := loopF (F := fun fuel k => f_X3_status_L33 fuel (sumR (V.1 28) k) (nI k) V) (n := 7) (res := some (sumR (V.1 28) 7, V)) ?_ ?_ 7 0 200 (by omega) (by omega)
  · exact key
  · intro fuel
    show f_X3_status_L33 (fuel + 1) _ _ _ = _
    rw [f_X3_status_L33, if_pos (by decide)]
  · intro fuel k hk
    show f_X3_status_L33 (fuel + 1) _ _ _ = f_X3_status_L33 fuel _ _ _
    rw [f_X3_status_L33, if_neg (show ¬ (7 : Int32) ≤ nI k from nI_ge hk (by decide)), inb7 hk, itt, cl_nI (by omega), nI_succ']
    rfl
theorem m_statA (V : VV) {a : Int32} (ha : a < 0) : f_X4_status_L25 200 a 0 0 V = some (sumR (V.1 5) 7, V) := by
  have key := loopF (F := fun fuel k => f_X4_status_L25 fuel a (sumR (V.1 5) k) (nI k) V) (n := 7) (res := some (sumR (V.1 5) 7, V)) ?_ ?_ 7 0 200 (by omega) (by omega)
  · exact key
  · intro fuel
    show f_X4_status_L25 (fuel + 1) _ _ _ _ = _
    rw [f_X4_status_L25, if_pos (by decide)]
  · intro fuel k hk
    show f_X4_status_L25 (fuel + 1) _ _ _ _ = f_X4_status_L25 fuel _ _ _ _
    rw [f_X4_status_L25, if_neg (show ¬ (7 : Int32) ≤ nI k from nI_ge hk (by decide)), if_pos ha, inb7 hk, itt, cl_nI (by omega), nI_succ']
    rfl
theorem m_statB (V : VV) {i : Nat} (hi : i < 7) : f_X4_status_L25 200 (nI i) 0 0 V = some (V.1 5 i, V) := by
  have key := loopF (F := fun fuel k => f_X4_status_L25 fuel (nI i) (if i < k then V.1 5 i else 0) (nI k) V) (n := 7) (res := some (V.1 5 i, V)) ?_ ?_ 7 0 200 (by omega) (by omega)
  · exact key
  · intro fuel
    show f_X4_status_L25 (fuel + 1) _ _ _ _ = _
    rw [f_X4_status_L25, if_pos (by decide), if_pos hi]
  · intro fuel k hk
    show f_X4_status_L25 (fuel + 1) _ _ _ _ = f_X4_status_L25 fuel _ _ _ _
    rw [f_X4_status_L25, if_neg (show ¬ (7 : Int32) ≤ nI k from nI_ge hk (by decide)), if_neg (nI_pos (by omega))]
    by_cases e : k = i
    · subst e
      rw [if_pos rfl, inb7 hk, itt, cl_nI (by omega), nI_succ', if_neg (by omega), if_pos (by omega), Int32.zero_add]
    · rw [if_neg (fun z => e ((nI_eq (by omega) (by omega)).mp z)), nI_succ', Int32.add_zero]
      by_cases g : i < k
      · rw [if_pos g, if_pos (by omega)]
      · rw [if_neg g, if_neg (by omega)]
theorem op_status {VC VM : VV} (h : Rel VC VM) (a : Int32) : Both (f_X3_status a VC) (f_X4_status a VM) := by
  have ef : VC.1 28 = VM.1 5 := h.2.2.2.2.1
  unfold f_X3_status f_X4_status
  by_cases h0 : a < -1
  · rw [if_pos h0, m_inN a (-1) 6 (by decide) (by decide) VM (Or.inl h0)]
    simp only [k_find0, m_find0, Option.bind_some, if_true, if_false, one0, eq_self, bV, itt]
    exact fd_both h _ 0
  · rw [if_neg h0]
    rcases rng a 7 (by decide) with ha | ⟨j, hj, rfl⟩
    · by_cases h1 : a < 0
      · rw [m_inY a (-1) 6 (by decide) (by decide) VM h0 (Int32.not_lt.mpr (Int32.le_of_lt (Int32.lt_trans h1 (by decide)))), if_pos (Int32.lt_trans h1 (by decide)), if_pos h1, k_stat]
        simp only [Option.bind_some, if_true, if_false, one0, eq_self, bV, itt, m_statA VM h1, ef]
        exact ⟨_, _, _, rfl, rfl, h⟩
      · have h2 := ha.resolve_left h1
        rw [m_inN a (-1) 6 (by decide) (by decide) VM (Or.inr (lt_of_le_succ (N := 6) (by decide) h2)), if_neg (show ¬ a < (7 : Int32) from Int32.not_lt.mpr h2)]
        simp only [k_find0, m_find0, Option.bind_some, if_true, if_false, one0, eq_self, bV, itt]
        exact fd_both h _ 0
    · rw [m_inY (nI j) (-1) 6 (by decide) (by decide) VM h0 (show ¬ nI 6 < nI j from nI_nlt (by omega) (by decide)), if_pos (show nI j < (7 : Int32) from nI_lt (b := 7) hj (by decide)), if_neg (nI_pos (by omega)), inb7 hj, itt, cl_nI (by omega)]
      simp only [Option.bind_some, if_true, if_false, one0, eq_self, bV, itt, m_statB VM hj, ef]
      exact ⟨_, _, _, rfl, rfl, h⟩
