/-! ===== PURE: calls, eighth: sheet ===== -/
/-- m places of a row of longs, from p on, are 0 -/
def clr (V : VV) (c p m : Nat) : VV := (V.1, fun c' => if c' = c then (fun j => if p ≤ j ∧ j < p + m then 0 else V.2 c j) else V.2 c')
theorem clr_0 (V : VV) (c p : Nat) : clr V c p 0 = V := by
  unfold clr
  have e : (fun c' => if c' = c then (fun j => if p ≤ j ∧ j < p + 0 then 0 else V.2 c j) else V.2 c') = V.2 := by
    funext c' j
    by_cases h : c' = c
    · subst h
      rw [if_pos rfl, if_neg (by omega)]
    · rw [if_neg h]
  rw [e]
theorem clr_s (V : VV) (c p m : Nat) : wJ (clr V c p m) c (p + m) 0 = clr V c p (m + 1) := by
  unfold clr wJ vp_updL
  have e : (fun c' => if c' = c then (fun j => if j = p + m then (0 : Int64) else (if c = c then (fun j => if p ≤ j ∧ j < p + m then 0 else V.2 c j) else V.2 c) j) else if c' = c then (fun j => if p ≤ j ∧ j < p + m then 0 else V.2 c j) else V.2 c') = (fun c' => if c' = c then (fun j => if p ≤ j ∧ j < p + (m + 1) then 0 else V.2 c j) else V.2 c') := by
    funext c' j
    by_cases h : c' = c
    · rw [if_pos h, if_pos h, if_pos rfl]
      by_cases g : j = p + m
      · rw [if_pos g, if_pos (by omega)]
      · rw [if_neg g]
        by_cases g2 : p ≤ j ∧ j < p + m
        · rw [if_pos g2, if_pos (by omega)]
        · rw [if_neg g2, if_neg (by omega)]
    · rw [if_neg h, if_neg h, if_neg h]
  show (V.1, _) = (V.1, _)
  rw [← e]
theorem k_lay (k : Nat) (V : VV) : f_X1_layOut_L20 k 200 0 V = some (clr V (29 + 2 * k + 1) 0 40) := by
  have key := loopF (F := fun fuel i => f_X1_layOut_L20 k fuel (nI i) (clr V (29 + 2 * k + 1) 0 i)) (n := 40) (res := some (clr V (29 + 2 * k + 1) 0 40)) ?_ ?_ 40 0 200 (by omega) (by omega)
  · rw [clr_0] at key
    exact key
  · intro fuel
    show f_X1_layOut_L20 k (fuel + 1) _ _ = _
    rw [f_X1_layOut_L20, if_pos (by decide)]
  · intro fuel i hi
    show f_X1_layOut_L20 k (fuel + 1) _ _ = f_X1_layOut_L20 k fuel _ _
    have e := clr_s V (29 + 2 * k + 1) 0 i
    rw [Nat.zero_add] at e
    rw [f_X1_layOut_L20, if_neg (show ¬ (40 : Int32) ≤ nI i from nI_ge hi (by decide)), inb40 hi, itt, cl_nI (by omega), e, nI_succ']
    rfl
theorem m_lay {k : Nat} (hk : k < 4) (V : VV) : f_X4_sheet_L86 200 (nI k) 0 V = some (V.1 8 k, clr V 9 (40 * k) 40) := by
  have key := loopF (F := fun fuel i => f_X4_sheet_L86 fuel (nI k) (nI i) (clr V 9 (40 * k) i)) (n := 40) (res := some (V.1 8 k, clr V 9 (40 * k) 40)) ?_ ?_ 40 0 200 (by omega) (by omega)
  · rw [clr_0] at key
    exact key
  · intro fuel
    show f_X4_sheet_L86 (fuel + 1) _ _ _ = _
    rw [f_X4_sheet_L86, if_pos (by decide), inb4 hk, itt, cl_nI (by omega)]
    rfl
  · intro fuel i hi
    show f_X4_sheet_L86 (fuel + 1) _ _ _ = f_X4_sheet_L86 fuel _ _ _
    rw [f_X4_sheet_L86, if_neg (show ¬ (40 : Int32) ≤ nI i from nI_ge hi (by decide)), (i160 hk hi).1, itt, (i160 hk hi).2, clr_s, nI_succ']
    rfl
theorem Rel.lay {VC VM : VV} (h : Rel VC VM) {k : Nat} (hk : k < 4) {B Z : Int32} (hB : B = 0 ∨ B = 8 ∨ B = 16 ∨ B = 64) (hz : ∃ z : Nat, z ≤ 40 ∧ Z = nI z) : Rel (clr (wI (wI VC (29 + 2 * k) 0 B) (29 + 2 * k) 1 Z) (29 + 2 * k + 1) 0 40) (clr (wI (wI VM 7 k B) 8 k Z) 9 (40 * k) 40) := by
  have c1 : ∀ V : VV, ∀ c p m, (clr V c p m).1 = V.1 := fun _ _ _ _ => rfl
  refine h.rs (fun c hc => by rw [c1, wI_ne (by omega), wI_ne (by omega)]) (fun c hc => by rw [c1, wI_ne (by omega), wI_ne (by omega)]) (fun q hq => ?_)
  obtain ⟨s1, s2, s3, s4, s5⟩ := h.2.2.2.2.2 q hq
  rw [c1, c1]
  by_cases e : q = k
  · subst e
    rw [wI_eq, wI_eq, wI_ne (show 7 ≠ 8 by decide), wI_eq, wI_eq]
    rw [upd_ne (show 0 ≠ 1 by decide), upd_eq, upd_eq, upd_eq, upd_eq]
    refine ⟨rfl, hB, rfl, hz, fun i hi => ?_⟩
    show (if 29 + 2 * q + 1 = 29 + 2 * q + 1 then (fun j => if 0 ≤ j ∧ j < 0 + 40 then (0 : Int64) else VC.2 (29 + 2 * q + 1) j) else VC.2 (29 + 2 * q + 1)) i = (if 9 = 9 then (fun j => if 40 * q ≤ j ∧ j < 40 * q + 40 then (0 : Int64) else VM.2 9 j) else VM.2 9) (40 * q + i)
    rw [if_pos rfl, if_pos rfl, if_pos (by omega), if_pos (by omega)]
  · rw [wI_ne (show 29 + 2 * q ≠ 29 + 2 * k by omega), wI_ne (show 29 + 2 * q ≠ 29 + 2 * k by omega), wI_ne (show 7 ≠ 8 by decide), wI_eq, wI_eq, wI_ne (show 8 ≠ 7 by decide), upd_ne e, upd_ne e]
    refine ⟨s1, s2, s3, s4, fun i hi => ?_⟩
    show (if 29 + 2 * q + 1 = 29 + 2 * k + 1 then _ else VC.2 (29 + 2 * q + 1)) i = (if 9 = 9 then (fun j => if 40 * k ≤ j ∧ j < 40 * k + 40 then (0 : Int64) else VM.2 9 j) else VM.2 9) (40 * q + i)
    rw [if_neg (by omega), if_pos rfl, if_neg (by omega)]
    exact s5 i hi
