/-! ===== PURE: calls, seventh: the sheets ===== -/
theorem Rel.rs {VC VM VC' VM' : VV} (h : Rel VC VM) (hC : ∀ c, c < 29 → VC'.1 c = VC.1 c) (hM : ∀ c, c < 7 → VM'.1 c = VM.1 c) (hs : RS VC' VM') : Rel VC' VM' := by
  obtain ⟨⟨n0, a1, a2, a3, a4⟩, ⟨z1, z2, z3, z4, z5⟩, ⟨k1, k2⟩, ⟨t1, t2, t3, t4⟩, f, s⟩ := h
  have r : ∀ j, j < 3 → rowC j VC' = rowC j VC := by
    intro j hj
    funext p
    unfold rowC
    rw [hC (8 * j) (by omega), hC (8 * j + 1 + (p - 4) % 7) (by omega)]
  refine ⟨⟨n0, by rw [hM 1 (by decide), r 0 (by decide)]; exact a1, by rw [hM 1 (by decide)]; exact a2, by rw [hM 1 (by decide)]; exact a3, by rw [hM 1 (by decide)]; exact a4⟩, ⟨by rw [hM 2 (by decide)]; exact z1, by rw [hM 3 (by decide)]; exact z2, by rw [hM 4 (by decide)]; exact z3, by rw [r 1 (by decide)]; exact z4, by rw [r 2 (by decide)]; exact z5⟩, ⟨by rw [hM 0 (by decide), hC 24 (by decide)]; exact k1, by rw [hM 0 (by decide), hM 2 (by decide), r 2 (by decide)]; exact k2⟩, ⟨by rw [hM 0 (by decide), hC 25 (by decide)]; exact t1, by rw [hM 0 (by decide)]; exact t2, by rw [hM 6 (by decide), hC 26 (by decide)]; exact t3, by rw [hM 6 (by decide)]; exact t4⟩, ?_, hs⟩
  show VC'.1 28 = VM'.1 5
  rw [hC 28 (by decide), hM 5 (by decide)]; exact f
theorem updL_eq (g : Nat → Int64) (k : Nat) (v : Int64) : vp_updL g k v k = v := by simp [vp_updL]
theorem updL_ne {g : Nat → Int64} {k i : Nat} {v : Int64} (h : i ≠ k) : vp_updL g k v i = g i := by simp [vp_updL, h]
theorem Rel.num {VC VM : VV} (h : Rel VC VM) {k i : Nat} (hk : k < 4) (hi : i < 40) (v : Int64) : Rel (wJ VC (29 + 2 * k + 1) i v) (wJ VM 9 (40 * k + i) v) := by
  refine h.rs (fun c _ => rfl) (fun c _ => rfl) (fun q hq => ?_)
  obtain ⟨s1, s2, s3, s4, s5⟩ := h.2.2.2.2.2 q hq
  refine ⟨s1, s2, s3, s4, fun j hj => ?_⟩
  rw [wJ_eq]
  by_cases e : q = k
  · subst e
    rw [wJ_eq]
    by_cases e2 : j = i
    · subst e2; rw [updL_eq, updL_eq]
    · rw [updL_ne e2, updL_ne (by omega)]; exact s5 j hj
  · rw [wJ_ne (by omega), updL_ne (by omega)]; exact s5 j hj
theorem k_sheet_n {a : Int32} (h : a < 0 ∨ nI 4 ≤ a) (V : VV) : f_X3_sheetOf a V = some (-1, V) := by
  unfold f_X3_sheetOf
  by_cases h0 : a < 0
  · rw [if_pos h0]
  · rw [if_neg h0, if_pos (show (4 : Int32) ≤ a from h.resolve_left h0)]
theorem k_sheet_y {k : Nat} (h : k < 4) (V : VV) : f_X3_sheetOf (nI k) V = some (nI k, V) := by
  unfold f_X3_sheetOf
  rw [if_neg (nI_pos (by omega)), if_neg (show ¬ (4 : Int32) ≤ nI k from nI_ge h (by decide))]
theorem m_one_n {a : Int32} (h : a < 0 ∨ nI 4 ≤ a) (V : VV) : f_X4_isOne a V = some (0, V) := by
  unfold f_X4_isOne
  rw [m_inN a 0 3 (by decide) (by decide) V (h.imp id (lt_of_le_succ (N := 3) (by decide)))]
  rfl
theorem m_one_y {k : Nat} (h : k < 4) (V : VV) : f_X4_isOne (nI k) V = some (1, V) := by
  unfold f_X4_isOne
  rw [m_inY (nI k) 0 3 (by decide) (by decide) V (nI_pos (by omega)) (show ¬ nI 3 < nI k from nI_nlt (by omega) (by decide))]
  rfl
theorem inb4 {k : Nat} (h : k < 4) : inb (nI k) 4 = true := inb_nI h (by decide)
theorem inb40 {k : Nat} (h : k < 40) : inb (nI k) 40 = true := inb_nI h (by decide)
theorem i160 {k i : Nat} (hk : k < 4) (hi : i < 40) : inb (40 * nI k + nI i) 160 = true ∧ Int32.toNatClampNeg (40 * nI k + nI i) = 40 * k + i := by
  have e : (40 : Int32) * nI k + nI i = nI (40 * k + i) := by
    rw [show (40 : Int32) = nI 40 from rfl, pk_mul, nI_add]
  rw [e]
  exact ⟨inb_nI (by omega) (by decide), cl_nI (by omega)⟩
/-- how a number is kept on a sheet of so many bits -/
def narr (b : Int32) (v : Int64) : Int64 := if b = 8 then (((v.toInt32).toInt8.toInt32).toInt64) else if b = 16 then (((v.toInt32).toInt16.toInt32).toInt64) else v
theorem m_narr (b : Int32) (v : Int64) (V : VV) : f_X4_narrowed b v V = some (narr b v, V) := by
  unfold f_X4_narrowed narr
  by_cases h8 : b = 8
  · rw [if_pos h8, if_pos h8]
  · rw [if_neg h8, if_neg h8]
    by_cases h16 : b = 16
    · rw [if_pos h16, if_pos h16]
    · rw [if_neg h16, if_neg h16]
theorem k_put (k : Nat) {i : Nat} (hi : i < 40) (v : Int64) (V : VV) : f_X1_put k (nI i) v V = some (wJ V (29 + 2 * k + 1) i (narr (V.1 (29 + 2 * k) 0) v)) := by
  unfold f_X1_put narr
  rw [inb40 hi, itt, itt, itt, cl_nI (by omega)]
  by_cases h8 : V.1 (29 + 2 * k) 0 = 8
  · rw [if_pos h8, if_pos h8]; rfl
  · rw [if_neg h8, if_neg h8]
    by_cases h16 : V.1 (29 + 2 * k) 0 = 16
    · rw [if_pos h16, if_pos h16]; rfl
    · rw [if_neg h16, if_neg h16]; rfl
theorem k_miss (k : Nat) (V : VV) : f_X1_isMissing k V = some (if V.1 (29 + 2 * k) 0 = 0 then 1 else 0, V) := by
  unfold f_X1_isMissing
  by_cases h : V.1 (29 + 2 * k) 0 = 0
  · rw [if_pos h, if_pos h]
  · rw [if_neg h, if_neg h]
abbrev BothL (f g : Option (Int64 × VV)) : Prop := ∃ r VC' VM', f = some (r, VC') ∧ g = some (r, VM') ∧ Rel VC' VM'
theorem op_write {VC VM : VV} (h : Rel VC VM) (a b : Int32) (v : Int64) : BothL (f_X3_write a b v VC) (f_X4_write a b v VM) := by
  unfold f_X3_write f_X4_write f_X4_wrongSheet
  rcases rng a 4 (by decide) with ha | ⟨k, hk, rfl⟩
  · rw [k_sheet_n ha, m_one_n ha]
    simp only [Option.bind_some, if_true, eq_self]
    rw [if_pos (show (-1 : Int32) < 0 by decide), if_neg (show ¬ (-1000000001 : Int32) = 0 by decide), k_find0, m_find0]
    exact ⟨_, _, _, rfl, rfl, h.find 0⟩
  · obtain ⟨s1, s2, s3, ⟨z, hz, s4⟩, s5⟩ := h.2.2.2.2.2 k hk
    rw [k_sheet_y hk, m_one_y hk]
    simp only [Option.bind_some, if_false, if_true, eq_self, one0, cl_nI (show k < 2 ^ 31 by omega), inb4 hk, itt, k_miss]
    rw [if_neg (nI_pos (show k < 2 ^ 31 by omega)), s1]
    by_cases g : VM.1 7 k = 0
    · rw [if_pos g, if_pos g, if_neg (show ¬ (1 : Int32) = 0 by decide), Option.bind_some]
      dsimp only
      rw [if_neg (show ¬ (-1000000006 : Int32) = 0 by decide), k_find5, m_find5]
      exact ⟨_, _, _, rfl, rfl, h.find 5⟩
    · rw [if_neg g, if_neg g, if_pos (show (0 : Int32) = 0 from rfl), Option.bind_some]
      dsimp only
      rw [if_pos (show (0 : Int32) = 0 from rfl), s3, s4]
      rcases rng b z (by omega) with hb | ⟨i, hi, rfl⟩
      · have hb' : b < 0 ∨ nI z - 1 < b := by
          by_cases h0 : b < 0
          · exact Or.inl h0
          · refine Or.inr ?_
            cases z with
            | zero => exact Int32.lt_of_lt_of_le (show nI 0 - 1 < 0 by decide) (Int32.not_lt.mp h0)
            | succ z => rw [nI_pred]; exact lt_of_le_succ (by omega) (hb.resolve_left h0)
        rw [m_inN b 0 (nI z - 1) (by decide) rfl _ hb', Option.bind_some]
        dsimp only
        rw [if_pos (show (0 : Int32) = 0 from rfl), k_find0, m_find0]
        by_cases h0 : b < 0
        · rw [if_pos h0]; exact ⟨_, _, _, rfl, rfl, h.find 0⟩
        · rw [if_neg h0, if_neg (Int32.not_lt.mpr (hb.resolve_left h0))]; exact ⟨_, _, _, rfl, rfl, h.find 0⟩
      · have hi40 : i < 40 := by omega
        obtain ⟨u, rfl⟩ : ∃ u, z = u + 1 := ⟨z - 1, by omega⟩
        rw [nI_pred, m_inY (nI i) 0 (nI u) (by decide) rfl _ (nI_pos (by omega)) (nI_nlt (by omega) (by omega)), Option.bind_some]
        dsimp only
        rw [if_neg (show ¬ (1 : Int32) = 0 by decide), if_neg (nI_pos (show i < 2 ^ 31 by omega)), if_pos (nI_lt hi (by omega)), inb40 hi40, itt, k_put k hi40, (i160 hk hi40).1, itt, (i160 hk hi40).2, cl_nI (show i < 2 ^ 31 by omega), m_narr, Option.bind_some, Option.bind_some]
        dsimp only
        rw [itt, s1, s5 i hi40]
        exact ⟨_, _, _, rfl, rfl, h.num hk hi40 _⟩
