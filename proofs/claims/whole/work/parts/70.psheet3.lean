/-! ===== PURE: calls, eighth: sheet, its end ===== -/
theorem bV_e {α : Type} (x : VV) (f : VV → α) : bV x f = f x := by
  cases x
  rfl
def layZ (B c : Int32) : Int32 := if B = 0 then 0 else c
theorem k_layB (k : Nat) (B c : Int32) (V : VV) : f_X1_layOut k B c V = some (clr (wI (wI V (29 + 2 * k) 0 B) (29 + 2 * k) 1 (layZ B c)) (29 + 2 * k + 1) 0 40) := by
  unfold f_X1_layOut layZ
  rw [bV_e]
  by_cases h : B = 0
  · rw [if_pos h, if_pos h, bV_e, k_lay]
  · rw [if_neg h, if_neg h, bV_e, k_lay]
theorem m_layB {k : Nat} (hk : k < 4) (B c : Int32) (V : VV) : (bV (wI V 7 k B) fun V8 => (if B = 0 then (bV (wI V8 8 k 0) fun V17 => (f_X4_sheet_L86 200 (nI k) 0 V17)) else (bV (wI V8 8 k c) fun V11 => (f_X4_sheet_L86 200 (nI k) 0 V11)))) = some (layZ B c, clr (wI (wI V 7 k B) 8 k (layZ B c)) 9 (40 * k) 40) := by
  unfold layZ
  rw [bV_e]
  by_cases h : B = 0
  · rw [if_pos h, if_pos h, bV_e, m_lay hk, wI_eq, upd_eq]
  · rw [if_neg h, if_neg h, bV_e, m_lay hk, wI_eq, upd_eq]
theorem k_sz (k : Nat) (B Z : Int32) (V : VV) : (clr (wI (wI V (29 + 2 * k) 0 B) (29 + 2 * k) 1 Z) (29 + 2 * k + 1) 0 40).1 (29 + 2 * k) 1 = Z := by
  show (wI (wI V (29 + 2 * k) 0 B) (29 + 2 * k) 1 Z).1 (29 + 2 * k) 1 = Z
  rw [wI_eq, upd_eq]
theorem sheet_core {VC VM : VV} (h : Rel VC VM) {k : Nat} (hk : k < 4) {B : Int32} (hB : B = 0 ∨ B = 8 ∨ B = 16 ∨ B = 64) (c : Int32) : Both (if 0 ≤ c then (if c ≤ 40 then ((f_X1_layOut k B c VC).bind fun V7 => some ((V7.1 (29 + 2 * k) 1), V7)) else (some (-1000000001, fdC 0 VC))) else (some (-1000000007, fdC 6 VC))) (if 0 ≤ c then (if c ≤ 40 then (bV (wI VM 7 k B) fun V8 => (if B = 0 then (bV (wI V8 8 k 0) fun V17 => (f_X4_sheet_L86 200 (nI k) 0 V17)) else (bV (wI V8 8 k c) fun V11 => (f_X4_sheet_L86 200 (nI k) 0 V11)))) else (some (-1000000001, fdM 0 VM))) else (some (-1000000007, fdM 6 VM))) := by
  by_cases c0 : 0 ≤ c
  · rw [if_pos c0, if_pos c0]
    rcases rng c 41 (by decide) with hc | ⟨z, hz, rfl⟩
    · have := lt_of_le_succ (N := 40) (by decide) (hc.resolve_left (Int32.not_lt.mpr c0))
      rw [if_neg (show ¬ c ≤ (40 : Int32) from Int32.not_le.mpr this), if_neg (show ¬ c ≤ (40 : Int32) from Int32.not_le.mpr this)]
      exact fd_both h _ 0
    · have hle : nI z ≤ (40 : Int32) := nI_le (b := 40) (by omega) (by decide)
      rw [if_pos hle, if_pos hle, k_layB, m_layB hk, Option.bind_some, k_sz]
      refine ⟨_, _, _, rfl, rfl, h.lay hk hB ?_⟩
      unfold layZ
      by_cases b0 : B = 0
      · rw [if_pos b0]; exact ⟨0, by decide, rfl⟩
      · rw [if_neg b0]; exact ⟨z, by omega, rfl⟩
  · rw [if_neg c0, if_neg c0]
    exact fd_both h _ 6
theorem op_sheet {VC VM : VV} (h : Rel VC VM) (a b c : Int32) : Both (f_X3_sheet a b c VC) (f_X4_sheet a b c VM) := by
  unfold f_X3_sheet f_X4_sheet
  rcases rng a 4 (by decide) with ha | ⟨k, hk, rfl⟩
  · simp only [k_sheet_n ha, m_one_n ha, k_find0, m_find0, k_find6, m_find6, Option.bind_some, if_true, eq_self, if_pos (show (-1 : Int32) < 0 by decide), ite_self]
    exact fd_both h _ 0
  · simp only [k_sheet_y hk, m_one_y hk, k_find0, m_find0, k_find6, m_find6, Option.bind_some, if_false, if_true, eq_self, one0, cl_nI (show k < 2 ^ 31 by omega), inb4 hk, itt, eq_false (nI_pos (show k < 2 ^ 31 by omega))]
    by_cases b0 : b = 0
    · rw [if_pos b0, if_pos b0]; exact sheet_core h hk (Or.inl b0) c
    · rw [if_neg b0, if_neg b0]
      by_cases b8 : b = 8
      · rw [if_pos b8, if_pos b8]; exact sheet_core h hk (Or.inr (Or.inl b8)) c
      · rw [if_neg b8, if_neg b8]
        by_cases b16 : b = 16
        · rw [if_pos b16, if_pos b16]; exact sheet_core h hk (Or.inr (Or.inr (Or.inl b16))) c
        · rw [if_neg b16, if_neg b16]
          by_cases b64 : b = 64
          · rw [if_pos b64, if_pos b64]; exact sheet_core h hk (Or.inr (Or.inr (Or.inr b64))) c
          · rw [if_neg b64, if_neg b64]
            exact fd_both h _ 0
