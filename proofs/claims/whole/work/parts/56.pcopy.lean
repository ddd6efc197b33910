/-! ===== PURE: rows copied ===== -/
def sR (V : VV) (c : Nat) (R : Row) : VV := (fun c' => if c' = c then R else V.1 c', V.2)
theorem sR_eq (V : VV) (c : Nat) (R : Row) : (sR V c R).1 c = R := by simp [sR]
theorem sR_ne (V : VV) {c d : Nat} (R : Row) (h : d ≠ c) : (sR V c R).1 d = V.1 d := by simp [sR, h]
theorem sR_2 (V : VV) (c : Nat) (R : Row) : (sR V c R).2 = V.2 := rfl
theorem sR_w (V : VV) (c : Nat) (R : Row) (p : Nat) (v : Int32) : wI (sR V c R) c p v = sR V c (upd R p v) := by
  apply vv_ext
  · intro d k
    by_cases h : d = c
    · subst h; rw [wI_eq, sR_eq, sR_eq]
    · rw [wI_ne h, sR_ne _ _ h, sR_ne _ _ h]
  · rfl
theorem sR_self (V : VV) (c : Nat) : sR V c (V.1 c) = V := by
  apply vv_ext
  · intro d k
    by_cases h : d = c
    · subst h; rw [sR_eq]
    · rw [sR_ne _ _ h]
  · rfl
theorem mR_sR (V : VV) (R : Row) : mR V R = sR V 1 R := rfl
def mixR (k : Nat) (S D : Row) : Row := fun p => if p < k then S p else D p
theorem mix0 (S D : Row) : mixR 0 S D = D := by funext p; simp [mixR]
theorem mixS (k : Nat) (S D : Row) : upd (mixR k S D) k (S k) = mixR (k + 1) S D := by
  funext p
  by_cases h : p = k
  · rw [h, upd_eq]; simp [mixR]
  · rw [upd_ne h]
    unfold mixR
    by_cases h2 : p < k
    · rw [if_pos h2, if_pos (by omega)]
    · rw [if_neg h2, if_neg (by omega)]
theorem mix60 {S D : Row} (hs : Z60 S) (hd : Z60 D) : mixR 60 S D = S := by
  funext p
  unfold mixR
  by_cases h : p < 60
  · rw [if_pos h]
  · rw [if_neg h, hs p (by omega), hd p (by omega)]
theorem inb60 {k : Nat} (h : k < 60) : inb (nI k) 60 = true := inb_nI h (by decide)
theorem le60 {k : Nat} (h : k < 60) : ¬ (60 : Int32) ≤ nI k := nI_ge h (by decide)
theorem m_saves (V : VV) (hs : Z60 (V.1 1)) (hd : Z60 (V.1 3)) : f_X4_saves V = some (sR V 3 (V.1 1)) := by
  unfold f_X4_saves
  have key := loopF (F := fun fuel k => f_X4_saves_L2 fuel (nI k) (sR V 3 (mixR k (V.1 1) (V.1 3)))) (n := 60) (res := some (sR V 3 (V.1 1))) ?_ ?_ 60 0 200 (by omega) (by omega)
  · rw [mix0, sR_self] at key
    exact key
  · intro fuel
    show f_X4_saves_L2 (fuel + 1) _ _ = _
    rw [f_X4_saves_L2, if_pos (by decide), mix60 hs hd]
  · intro fuel k hk
    show f_X4_saves_L2 (fuel + 1) _ _ = f_X4_saves_L2 fuel _ _
    rw [f_X4_saves_L2, if_neg (le60 hk), inb60 hk, itt, itt, cl_nI (by omega), sR_ne _ _ (show 1 ≠ 3 by decide), sR_w, mixS, nI_succ']
    rfl
theorem m_putsBack (V : VV) (hs : Z60 (V.1 3)) (hd : Z60 (V.1 1)) : f_X4_putsBack V = some (sR V 1 (V.1 3)) := by
  unfold f_X4_putsBack
  have key := loopF (F := fun fuel k => f_X4_putsBack_L2 fuel (nI k) (sR V 1 (mixR k (V.1 3) (V.1 1)))) (n := 60) (res := some (sR V 1 (V.1 3))) ?_ ?_ 60 0 200 (by omega) (by omega)
  · rw [mix0, sR_self] at key
    exact key
  · intro fuel
    show f_X4_putsBack_L2 (fuel + 1) _ _ = _
    rw [f_X4_putsBack_L2, if_pos (by decide), mix60 hs hd]
  · intro fuel k hk
    show f_X4_putsBack_L2 (fuel + 1) _ _ = f_X4_putsBack_L2 fuel _ _
    rw [f_X4_putsBack_L2, if_neg (le60 hk), inb60 hk, itt, itt, cl_nI (by omega), sR_ne _ _ (show 3 ≠ 1 by decide), sR_w, mixS, nI_succ']
    rfl
theorem m_laysAside (V : VV) (hs : Z60 (V.1 1)) (hd : Z60 (V.1 4)) : f_X4_laysAside V = some (sR V 4 (V.1 1)) := by
  unfold f_X4_laysAside
  have key := loopF (F := fun fuel k => f_X4_laysAside_L2 fuel (nI k) (sR V 4 (mixR k (V.1 1) (V.1 4)))) (n := 60) (res := some (sR V 4 (V.1 1))) ?_ ?_ 60 0 200 (by omega) (by omega)
  · rw [mix0, sR_self] at key
    exact key
  · intro fuel
    show f_X4_laysAside_L2 (fuel + 1) _ _ = _
    rw [f_X4_laysAside_L2, if_pos (by decide), mix60 hs hd]
  · intro fuel k hk
    show f_X4_laysAside_L2 (fuel + 1) _ _ = f_X4_laysAside_L2 fuel _ _
    rw [f_X4_laysAside_L2, if_neg (le60 hk), inb60 hk, itt, itt, cl_nI (by omega), sR_ne _ _ (show 1 ≠ 4 by decide), sR_w, mixS, nI_succ']
    rfl
theorem m_takesBack (V : VV) (a : Int32) (hs : Z60 (V.1 4)) (hd : Z60 (V.1 1)) : f_X4_takesBack a V = some (a, sR V 1 (V.1 4)) := by
  unfold f_X4_takesBack
  have key := loopF (F := fun fuel k => f_X4_takesBack_L2 fuel a (nI k) (sR V 1 (mixR k (V.1 4) (V.1 1)))) (n := 60) (res := some (a, sR V 1 (V.1 4))) ?_ ?_ 60 0 200 (by omega) (by omega)
  · rw [mix0, sR_self] at key
    exact key
  · intro fuel
    show f_X4_takesBack_L2 (fuel + 1) _ _ _ = _
    rw [f_X4_takesBack_L2, if_pos (by decide), mix60 hs hd]
  · intro fuel k hk
    show f_X4_takesBack_L2 (fuel + 1) _ _ _ = f_X4_takesBack_L2 fuel _ _ _
    rw [f_X4_takesBack_L2, if_neg (le60 hk), inb60 hk, itt, itt, cl_nI (by omega), sR_ne _ _ (show 4 ≠ 1 by decide), sR_w, mixS, nI_succ']
    rfl
theorem m_image (V : VV) (hs : Z60 (V.1 1)) (hd : Z60 (V.1 2)) : f_X4_image V = some (1, wI (sR V 2 (V.1 1)) 0 5 1) := by
  unfold f_X4_image
  have key := loopF (F := fun fuel k => f_X4_image_L2 fuel (nI k) (sR V 2 (mixR k (V.1 1) (V.1 2)))) (n := 60) (res := some (1, wI (sR V 2 (V.1 1)) 0 5 1)) ?_ ?_ 60 0 200 (by omega) (by omega)
  · rw [mix0, sR_self] at key
    exact key
  · intro fuel
    show f_X4_image_L2 (fuel + 1) _ _ = _
    rw [f_X4_image_L2, if_pos (by decide), mix60 hs hd]
    rfl
  · intro fuel k hk
    show f_X4_image_L2 (fuel + 1) _ _ = f_X4_image_L2 fuel _ _
    rw [f_X4_image_L2, if_neg (le60 hk), inb60 hk, itt, itt, cl_nI (by omega), sR_ne _ _ (show 1 ≠ 2 by decide), sR_w, mixS, nI_succ']
    rfl
theorem m_undoL (V : VV) (hs : Z60 (V.1 2)) (hd : Z60 (V.1 1)) : f_X4_undo_L16 200 0 V = some (V.1 2 0, sR V 1 (V.1 2)) := by
  have key := loopF (F := fun fuel k => f_X4_undo_L16 fuel (nI k) (sR V 1 (mixR k (V.1 2) (V.1 1)))) (n := 60) (res := some (V.1 2 0, sR V 1 (V.1 2))) ?_ ?_ 60 0 200 (by omega) (by omega)
  · rw [mix0, sR_self] at key
    exact key
  · intro fuel
    show f_X4_undo_L16 (fuel + 1) _ _ = _
    rw [f_X4_undo_L16, if_pos (by decide), mix60 hs hd, inb0, itt, sR_eq, tn0]
  · intro fuel k hk
    show f_X4_undo_L16 (fuel + 1) _ _ = f_X4_undo_L16 fuel _ _
    rw [f_X4_undo_L16, if_neg (le60 hk), inb60 hk, itt, itt, cl_nI (by omega), sR_ne _ _ (show 2 ≠ 1 by decide), sR_w, mixS, nI_succ']
    rfl
/-! the class copies moors -/
theorem pR_i {i j : Nat} (h : i ≠ j) (V : VV) (R : Row) (d k : Nat) (hd : d < 8) : (pR j V R).1 (8 * i + d) k = V.1 (8 * i + d) k := by
  simp only [pR]
  rw [if_neg (by omega), if_neg (by omega)]
theorem pR_i0 {i j : Nat} (h : i ≠ j) (V : VV) (R : Row) (k : Nat) : (pR j V R).1 (8 * i) k = V.1 (8 * i) k := pR_i h V R 0 k (by decide)
def cpR (b : Nat) (S R : Row) : Row := fun p => if 4 ≤ p ∧ (p - 4) % 7 = b ∧ (p - 4) / 7 < 8 then S p else R p
theorem pR_cp {i j : Nat} (h : i ≠ j) (V : VV) (R : Row) (k : Nat) (h0 : 0 < k) (h8 : k < 8) : cpI (pR j V R) (8 * j + k) (8 * i + k) 0 0 8 = pR j V (cpR (k - 1) (rowC i V) R) := by
  apply vv_ext
  · intro c w
    by_cases hc : c = 8 * j + k
    · subst hc
      rw [cpI_eq, pR_a j V _ k w h0 h8]
      unfold va_cpy cpR
      have e1 : (sp w (k - 1) - 4) % 7 = k - 1 := by unfold sp; omega
      have e2 : (sp w (k - 1) - 4) / 7 = w := by unfold sp; omega
      rw [e1, e2]
      by_cases hw : w < 8
      · rw [if_pos ⟨by omega, by omega⟩, if_pos ⟨sp_ge _ _, rfl, hw⟩]
        rw [Nat.zero_add, Nat.sub_zero, pR_i h V R k w h8]
        unfold rowC
        have := sp_ge w (k - 1)
        rw [if_neg (by omega), if_neg (by omega), if_neg (by omega), if_neg (by omega), e1, e2, show 8 * i + 1 + (k - 1) = 8 * i + k by omega]
      · rw [if_neg (fun z => hw (by omega)), if_neg (fun z => hw z.2.2), pR_a j V R k w h0 h8]
    · rw [cpI_ne hc]
      have e : ∀ p, ¬ (4 ≤ p ∧ (p - 4) % 7 = k - 1) → cpR (k - 1) (rowC i V) R p = R p := fun p hp => by unfold cpR; rw [if_neg (fun z => hp ⟨z.1, z.2.1⟩)]
      unfold pR
      dsimp only
      rw [e 0 (by omega), e 1 (by omega), e 2 (by omega), e 3 (by omega)]
      by_cases c8 : c = 8 * j
      · rw [if_pos c8, if_pos c8]
      · rw [if_neg c8, if_neg c8]
        by_cases c9 : 8 * j < c ∧ c < 8 * j + 8
        · rw [if_pos c9, if_pos c9, e _ (by omega)]
        · rw [if_neg c9, if_neg c9]
  · rfl
theorem cpok8 : cpok 0 0 8 8 8 = true := by decide
theorem tn8 : Int32.toNatClampNeg 8 = 8 := by decide
theorem row_at (i : Nat) (V : VV) : rowC i V 0 = V.1 (8 * i) 3 ∧ rowC i V 1 = V.1 (8 * i) 0 ∧ rowC i V 2 = V.1 (8 * i) 1 ∧ rowC i V 3 = V.1 (8 * i) 2 := by
  refine ⟨rfl, rfl, rfl, rfl⟩
theorem k_takeFrom {i j : Nat} (h : i ≠ j) (V : VV) (hs : Z60 (rowC i V)) (hd : Z60 (rowC j V)) : f_X0_takeFrom j i V = some (pR j V (rowC i V)) := by
  have e0 := pR_row j V
  generalize hR : rowC j V = R at e0 hd
  have main : f_X0_takeFrom j i (pR j V R) = some (pR j V (rowC i V)) := by
    unfold f_X0_takeFrom
    simp only [bV, pR_i0 h, pR_wt, pR_wf, pR_wv, pR_wn, cpok8, itt, if_true, tn0, tn8, pR_cp h V _ 1 (by decide) (by decide), pR_cp h V _ 2 (by decide) (by decide), pR_cp h V _ 3 (by decide) (by decide), pR_cp h V _ 4 (by decide) (by decide), pR_cp h V _ 5 (by decide) (by decide), pR_cp h V _ 6 (by decide) (by decide), pR_cp h V _ 7 (by decide) (by decide)]
    congr 2
    funext p
    obtain ⟨r0, r1, r2, r3⟩ := row_at i V
    have q : ∀ b S Q, p < 4 → cpR b S Q p = Q p := fun b S Q hp => by unfold cpR; rw [if_neg (by omega)]
    by_cases hp : p < 4
    · rw [q _ _ _ hp, q _ _ _ hp, q _ _ _ hp, q _ _ _ hp, q _ _ _ hp, q _ _ _ hp, q _ _ _ hp]
      rcases (show p = 0 ∨ p = 1 ∨ p = 2 ∨ p = 3 by omega) with rfl | rfl | rfl | rfl
      · rw [upd_eq, r0]
      · rw [upd_ne (by decide), upd_ne (by decide), upd_ne (by decide), upd_eq, r1]
      · rw [upd_ne (by decide), upd_ne (by decide), upd_eq, r2]
      · rw [upd_ne (by decide), upd_eq, r3]
    · by_cases h60 : p < 60
      · have hit : ∀ b S Q, (p - 4) % 7 = b → cpR b S Q p = S p := fun b S Q hb => by unfold cpR; rw [if_pos ⟨by omega, hb, by omega⟩]
        have mis : ∀ b S Q, (p - 4) % 7 ≠ b → cpR b S Q p = Q p := fun b S Q hb => by unfold cpR; rw [if_neg (fun z => hb z.2.1)]
        rcases (show (p - 4) % 7 = 0 ∨ (p - 4) % 7 = 1 ∨ (p - 4) % 7 = 2 ∨ (p - 4) % 7 = 3 ∨ (p - 4) % 7 = 4 ∨ (p - 4) % 7 = 5 ∨ (p - 4) % 7 = 6 by omega) with m | m | m | m | m | m | m
        · rw [mis (7 - 1) _ _ (by omega), mis (6 - 1) _ _ (by omega), mis (5 - 1) _ _ (by omega), mis (4 - 1) _ _ (by omega), mis (3 - 1) _ _ (by omega), mis (2 - 1) _ _ (by omega), hit (1 - 1) _ _ (by omega)]
        · rw [mis (7 - 1) _ _ (by omega), mis (6 - 1) _ _ (by omega), mis (5 - 1) _ _ (by omega), mis (4 - 1) _ _ (by omega), mis (3 - 1) _ _ (by omega), hit (2 - 1) _ _ (by omega)]
        · rw [mis (7 - 1) _ _ (by omega), mis (6 - 1) _ _ (by omega), mis (5 - 1) _ _ (by omega), mis (4 - 1) _ _ (by omega), hit (3 - 1) _ _ (by omega)]
        · rw [mis (7 - 1) _ _ (by omega), mis (6 - 1) _ _ (by omega), mis (5 - 1) _ _ (by omega), hit (4 - 1) _ _ (by omega)]
        · rw [mis (7 - 1) _ _ (by omega), mis (6 - 1) _ _ (by omega), hit (5 - 1) _ _ (by omega)]
        · rw [mis (7 - 1) _ _ (by omega), hit (6 - 1) _ _ (by omega)]
        · rw [hit (7 - 1) _ _ (by omega)]
      · have far : ∀ b S Q, cpR b S Q p = Q p := fun b S Q => by unfold cpR; rw [if_neg (fun z => by omega)]
        rw [far, far, far, far, far, far, far, upd_ne (by omega), upd_ne (by omega), upd_ne (by omega), upd_ne (by omega), hs p (by omega), hd p (by omega)]
  rw [e0] at main
  exact main
