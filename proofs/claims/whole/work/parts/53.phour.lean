/-! ===== PURE: sets of walkers ===== -/
def bitsR (P : Nat → Bool) : Nat → Int32
  | 0 => 0
  | n + 1 => if P n = true then bitsR P n ||| (1 <<< (nI n &&& 31)) else bitsR P n
theorem or0 (x : Int32) : x ||| 0 = x := by simp
def atB (R : Row) (c : Int32) (w : Nat) : Bool := decide (R (sp w 1) = c)
def kpB (R : Row) (w : Nat) : Bool := !decide (R (sp w 5) = -1)
theorem k_setAt {n : Nat} (j : Nat) (V : VV) {R : Row} (h8 : n ≤ 8) (hn : R 0 = nI n) (c : Int32) : f_X0_setAt j c (pR j V R) = some (bitsR (atB R c) n, pR j V R) := by
  unfold f_X0_setAt
  refine loopF (F := fun fuel w => f_X0_setAt_L4 j fuel c (bitsR (atB R c) w) (nI w) (pR j V R)) (n := n) ?_ ?_ n 0 200 (by omega) (by omega)
  · intro fuel
    show f_X0_setAt_L4 j (fuel + 1) _ _ _ _ = _
    rw [f_X0_setAt_L4, pR_n, hn, if_pos (Int32.le_refl _)]
  · intro fuel w hw
    have hw8 : w < 8 := by omega
    show f_X0_setAt_L4 j (fuel + 1) _ _ _ _ = f_X0_setAt_L4 j fuel _ _ _ _
    rw [f_X0_setAt_L4, pR_n, hn, if_neg (nI_ge hw (by omega))]
    simp only [inb8 hw8, cl8 hw8, pR_2', itt, if_true, nI_succ', bitsR, atB, decide_eq_true_eq]
    by_cases h : R (sp w 1) = c <;> simp only [h, if_true, if_false]
theorem k_keptSet {n : Nat} (j : Nat) (V : VV) {R : Row} (h8 : n ≤ 8) (hn : R 0 = nI n) : f_X0_keptSet j (pR j V R) = some (bitsR (kpB R) n, pR j V R) := by
  unfold f_X0_keptSet
  refine loopF (F := fun fuel w => f_X0_keptSet_L4 j fuel (bitsR (kpB R) w) (nI w) (pR j V R)) (n := n) ?_ ?_ n 0 200 (by omega) (by omega)
  · intro fuel
    show f_X0_keptSet_L4 j (fuel + 1) _ _ _ = _
    rw [f_X0_keptSet_L4, pR_n, hn, if_pos (Int32.le_refl _)]
  · intro fuel w hw
    have hw8 : w < 8 := by omega
    show f_X0_keptSet_L4 j (fuel + 1) _ _ _ = f_X0_keptSet_L4 j fuel _ _ _
    rw [f_X0_keptSet_L4, pR_n, hn, if_neg (nI_ge hw (by omega)), k_isFree j V R hw8, Option.bind_some]
    dsimp only
    rw [nI_succ', bitsR]
    by_cases h : R (sp w 5) = -1
    · rw [if_pos h, if_neg (by decide), if_neg (by simp [kpB, h])]
    · rw [if_neg h, if_pos rfl, if_pos (by simp [kpB, h])]
theorem k_gladSet {n : Nat} (j : Nat) (V : VV) {R : Row} (h8 : n ≤ 8) (hn : R 0 = nI n) : f_X0_gladSet j (pR j V R) = some (bitsR (gladB R) n, pR j V R) := by
  unfold f_X0_gladSet
  refine loopF (F := fun fuel w => f_X0_gladSet_L4 j fuel (bitsR (gladB R) w) (nI w) (pR j V R)) (n := n) ?_ ?_ n 0 200 (by omega) (by omega)
  · intro fuel
    show f_X0_gladSet_L4 j (fuel + 1) _ _ _ = _
    rw [f_X0_gladSet_L4, pR_n, hn, if_pos (Int32.le_refl _)]
  · intro fuel w hw
    have hw8 : w < 8 := by omega
    show f_X0_gladSet_L4 j (fuel + 1) _ _ _ = f_X0_gladSet_L4 j fuel _ _ _
    rw [f_X0_gladSet_L4, pR_n, hn, if_neg (nI_ge hw (by omega)), k_isGlad j V R hw8, Option.bind_some]
    dsimp only
    rw [nI_succ', bitsR]
    by_cases h : gladB R w = true
    · rw [if_pos h, if_neg (by decide), if_pos h]
    · rw [if_neg h, if_pos rfl, if_neg h]
theorem m_thoseAt {n : Nat} (V : VV) {R : Row} (h8 : n ≤ 8) (hn : R 0 = nI n) (c : Int32) : f_X4_thoseAt c (mR V R) = some (bitsR (atB R c) n, mR V R) := by
  unfold f_X4_thoseAt
  refine loopF (F := fun fuel w => f_X4_thoseAt_L4 fuel c (bitsR (atB R c) w) (nI w) (mR V R)) (n := n) ?_ ?_ n 0 200 (by omega) (by omega)
  · intro fuel
    show f_X4_thoseAt_L4 (fuel + 1) _ _ _ _ = _
    rw [f_X4_thoseAt_L4, inb0, itt, mR_1, tn0, hn, if_pos (Int32.le_refl _)]
  · intro fuel w hw
    have hw8 : w < 8 := by omega
    show f_X4_thoseAt_L4 (fuel + 1) _ _ _ _ = f_X4_thoseAt_L4 fuel _ _ _ _
    rw [f_X4_thoseAt_L4, inb0, itt, mR_1, tn0, hn, if_neg (nI_ge hw (by omega)), m_its1 V R hw8, Option.bind_some]
    dsimp only
    rw [nI_succ', bitsR, or0]
    by_cases h : R (sp w 1) = c
    · rw [if_pos h, if_pos (by simp [atB, h])]
    · rw [if_neg h, if_neg (by simp [atB, h])]
theorem m_thoseKept {n : Nat} (V : VV) {R : Row} (h8 : n ≤ 8) (hn : R 0 = nI n) : f_X4_thoseKept (mR V R) = some (bitsR (kpB R) n, mR V R) := by
  unfold f_X4_thoseKept
  refine loopF (F := fun fuel w => f_X4_thoseKept_L4 fuel (bitsR (kpB R) w) (nI w) (mR V R)) (n := n) ?_ ?_ n 0 200 (by omega) (by omega)
  · intro fuel
    show f_X4_thoseKept_L4 (fuel + 1) _ _ _ = _
    rw [f_X4_thoseKept_L4, inb0, itt, mR_1, tn0, hn, if_pos (Int32.le_refl _)]
  · intro fuel w hw
    have hw8 : w < 8 := by omega
    show f_X4_thoseKept_L4 (fuel + 1) _ _ _ = f_X4_thoseKept_L4 fuel _ _ _
    rw [f_X4_thoseKept_L4, inb0, itt, mR_1, tn0, hn, if_neg (nI_ge hw (by omega)), m_isFree V R hw8, Option.bind_some]
    dsimp only
    rw [nI_succ', bitsR, or0]
    by_cases h : R (sp w 5) = -1
    · rw [if_pos h, if_neg (by decide), if_neg (by simp [kpB, h])]
    · rw [if_neg h, if_pos rfl, if_pos (by simp [kpB, h])]
theorem m_thoseGlad {n : Nat} (V : VV) {R : Row} (h8 : n ≤ 8) (hn : R 0 = nI n) : f_X4_thoseGlad (mR V R) = some (bitsR (gladB R) n, mR V R) := by
  unfold f_X4_thoseGlad
  refine loopF (F := fun fuel w => f_X4_thoseGlad_L4 fuel (bitsR (gladB R) w) (nI w) (mR V R)) (n := n) ?_ ?_ n 0 200 (by omega) (by omega)
  · intro fuel
    show f_X4_thoseGlad_L4 (fuel + 1) _ _ _ = _
    rw [f_X4_thoseGlad_L4, inb0, itt, mR_1, tn0, hn, if_pos (Int32.le_refl _)]
  · intro fuel w hw
    have hw8 : w < 8 := by omega
    show f_X4_thoseGlad_L4 (fuel + 1) _ _ _ = f_X4_thoseGlad_L4 fuel _ _ _
    rw [f_X4_thoseGlad_L4, inb0, itt, mR_1, tn0, hn, if_neg (nI_ge hw (by omega)), m_isGlad V R hw8, Option.bind_some]
    dsimp only
    rw [nI_succ', bitsR, or0]
    by_cases h : gladB R w = true
    · rw [if_pos h, if_neg (by decide), if_pos h]
    · rw [if_neg h, if_pos rfl, if_neg h]
/-! ===== PURE: the lifting and the going of all ===== -/
def allR (w : Nat) (R : Row) : Row := if R (sp w 5) = -1 ∨ ¬ R (sp w 5) < nI w then bringR w (goR w R) else R
theorem Wf.all {n T : Nat} {R : Row} (h : Wf n T R) {w : Nat} (hw : w < n) : Wf n T (allR w R) := by
  unfold allR
  split
  · exact (h.go hw).bring hw
  · exact h
theorem Z60.all {n T : Nat} {R : Row} (hz : Z60 R) (h : Wf n T R) {w : Nat} (hw : w < n) : Z60 (allR w R) := by
  have hw8 : w < 8 := Nat.lt_of_lt_of_le hw h.1
  unfold allR
  split
  · exact (hz.go hw8).bring (h.go hw) hw
  · exact hz
theorem k_lift {n T : Nat} (j : Nat) (V : VV) {R : Row} (hf : Wf n T R) : f_X0_lift j (pR j V R) = some (pR j V (itW liftR n R)) := by
  have h8 := hf.1
  have hW : ∀ i, i ≤ n → Wf n T (itW liftR i R) := fun i hi => itW_ind (P := Wf n T) (N := n) (fun w R _ h => h.lift) i R hi hf
  unfold f_X0_lift
  refine loopF (F := fun fuel w => f_X0_lift_L2 j fuel (nI w) (pR j V (itW liftR w R))) (n := n) ?_ ?_ n 0 200 (by omega) (by omega)
  · intro fuel
    show f_X0_lift_L2 j (fuel + 1) _ _ = _
    rw [f_X0_lift_L2, pR_n, (hW n (Nat.le_refl n)).2.1, if_pos (Int32.le_refl _)]
  · intro fuel w hw
    have hw8 : w < 8 := by omega
    show f_X0_lift_L2 j (fuel + 1) _ _ = f_X0_lift_L2 j fuel _ _
    rw [f_X0_lift_L2, pR_n, (hW w (by omega)).2.1, if_neg (nI_ge hw (by omega))]
    simp only [inb8 hw8, cl8 hw8, pR_2', pR_v, pR_w6, pR_w7, itt, if_true, nI_succ', bV, itW]
    rw [liftR]
    by_cases h : itW liftR w R (sp w 1) = itW liftR w R 3
    · rw [if_pos h, if_pos h]
    · rw [if_neg h, if_neg h]
/-- the class's hour, its meeting given -/
theorem k_hour {n T : Nat} (j : Nat) (V : VV) {R : Row} (hf : Wf n T R) {col : Row → Row} (hcol : ∀ R', Wf n T R' → f_X0_collide j (pR j V R') = some (pR j V (col R'))) : f_X0_passHour j (pR j V R) = some (pR j V (if fogB R = true then upd (col (itW allR n R)) 1 (col (itW allR n R) 1 + 1) else upd (itW allR n (itW liftR n R)) 1 (itW allR n (itW liftR n R) 1 + 1))) := by
  have h8 := hf.1
  have hL : ∀ (Q : Row), Wf n T Q → ∀ (x : Int32), (x = 0 ∨ x = 1) → f_X0_passHour_L15 j 200 x 0 (pR j V Q) = some (pR j V (if x = 0 then upd (itW allR n Q) 1 (itW allR n Q 1 + 1) else upd (col (itW allR n Q)) 1 (col (itW allR n Q) 1 + 1))) := by
    intro Q hQ x hx
    have hW : ∀ i, i ≤ n → Wf n T (itW allR i Q) := fun i hi => itW_ind (P := Wf n T) (N := n) (fun w R hw h => h.all hw) i Q hi hQ
    refine loopF (F := fun fuel w => f_X0_passHour_L15 j fuel x (nI w) (pR j V (itW allR w Q))) (n := n) ?_ ?_ n 0 200 (by omega) (by omega)
    · intro fuel
      show f_X0_passHour_L15 j (fuel + 1) _ _ _ = _
      rw [f_X0_passHour_L15, pR_n, (hW n (Nat.le_refl n)).2.1, if_pos (Int32.le_refl _)]
      by_cases h : x = 0
      · rw [if_pos h, if_pos h]
        simp only [bV, pR_t, pR_wt]
      · rw [if_neg h, if_neg h, hcol _ (hW n (Nat.le_refl n)), Option.bind_some]
        simp only [bV, pR_t, pR_wt]
    · intro fuel w hw
      have hw8 : w < 8 := by omega
      have hWw := hW w (by omega)
      show f_X0_passHour_L15 j (fuel + 1) _ _ _ = f_X0_passHour_L15 j fuel _ _ _
      rw [f_X0_passHour_L15, pR_n, hWw.2.1, if_neg (nI_ge hw (by omega)), k_isFree j V _ hw8, Option.bind_some]
      dsimp only
      rw [nI_succ', itW, allR]
      by_cases h : itW allR w Q (sp w 5) = -1
      · rw [if_pos h, if_neg (by decide), if_pos (Or.inl h), k_go j V hWw hw, Option.bind_some, k_bring j V (hWw.go hw) hw, Option.bind_some]
      · rw [if_neg h, if_pos rfl, inb8 hw8, itt, cl8 hw8, pR_6]
        by_cases h2 : itW allR w Q (sp w 5) < nI w
        · rw [if_pos h2, if_neg (fun z => z.elim h (fun y => y h2))]
        · rw [if_neg h2, if_pos (Or.inr h2), k_go j V hWw hw, Option.bind_some, k_bring j V (hWw.go hw) hw, Option.bind_some]
  unfold f_X0_passHour
  rw [k_isFoggy, Option.bind_some]
  dsimp only
  by_cases h : fogB R = true
  · rw [if_pos h, if_neg (by decide), hL R hf 1 (Or.inr rfl), if_neg (by decide), if_pos h]
  · rw [if_neg h, if_pos rfl, k_lift j V hf, Option.bind_some, hL _ (itW_ind (P := Wf n T) (N := n) (fun w R _ h => h.lift) n R (Nat.le_refl n) hf) 0 (Or.inl rfl), if_pos rfl, if_neg h]
/-- the reference's hour, its meetings given -/
theorem m_hour {n T : Nat} (V : VV) {R : Row} (hf : Wf n T R) {mt : Nat → Row → Row} (hmt : ∀ c R', c < 36 → Wf n T R' → f_X4_meetAt (nI c) (mR V R') = some (mR V (mt c R')) ∧ Wf n T (mt c R')) : f_X4_goesHour (mR V R) = some (mR V (if fogB R = true then upd (itW mt 36 (itW allR n R)) 1 (itW mt 36 (itW allR n R) 1 + 1) else upd (itW allR n (itW liftR n R)) 1 (itW allR n (itW liftR n R) 1 + 1))) := by
  have h8 := hf.1
  have h90 : ∀ (Q : Row), Wf n T Q → ∀ (x : Int32), (x = 0 ∨ x = 1) → f_X4_goesHour_L90 200 x 0 (mR V Q) = some (mR V (if x = 0 then upd Q 1 (Q 1 + 1) else upd (itW mt 36 Q) 1 (itW mt 36 Q 1 + 1))) := by
    intro Q hQ x hx
    by_cases h : x = 0
    · rw [if_pos h]
      show f_X4_goesHour_L90 (199 + 1) _ _ _ = _
      rw [f_X4_goesHour_L90, if_neg (by decide), if_pos h]
      simp only [Option.bind_some, bV, mR_1, mR_w, inb0, inb1, inb2, inb3, tn0, tn1, tn2, tn3, itt, if_true]
    · rw [if_neg h]
      have hW : ∀ i, i ≤ 36 → Wf n T (itW mt i Q) := fun i hi => itW_ind (P := Wf n T) (N := 36) (fun c R hc h => (hmt c R hc h).2) i Q hi hQ
      refine loopF (F := fun fuel c => f_X4_goesHour_L90 fuel x (nI c) (mR V (itW mt c Q))) (n := 36) ?_ ?_ 36 0 200 (by omega) (by omega)
      · intro fuel
        show f_X4_goesHour_L90 (fuel + 1) _ _ _ = _
        rw [f_X4_goesHour_L90, if_pos (by decide)]
        simp only [Option.bind_some, bV, mR_1, mR_w, inb0, inb1, inb2, inb3, tn0, tn1, tn2, tn3, itt, if_true]
      · intro fuel c hc
        show f_X4_goesHour_L90 (fuel + 1) _ _ _ = f_X4_goesHour_L90 fuel _ _ _
        rw [f_X4_goesHour_L90, if_neg (show ¬ (36 : Int32) ≤ nI c from nI_ge hc (by decide)), if_neg h, (hmt c _ hc (hW c (by omega))).1, Option.bind_some, nI_succ']
        rfl
  have h49 : ∀ (Q : Row), Wf n T Q → ∀ (x : Int32), (x = 0 ∨ x = 1) → f_X4_goesHour_L49 200 x 0 (mR V Q) = some (mR V (if x = 0 then upd (itW allR n Q) 1 (itW allR n Q 1 + 1) else upd (itW mt 36 (itW allR n Q)) 1 (itW mt 36 (itW allR n Q) 1 + 1))) := by
    intro Q hQ x hx
    have hW : ∀ i, i ≤ n → Wf n T (itW allR i Q) := fun i hi => itW_ind (P := Wf n T) (N := n) (fun w R hw h => h.all hw) i Q hi hQ
    refine loopF (F := fun fuel w => f_X4_goesHour_L49 fuel x (nI w) (mR V (itW allR w Q))) (n := n) ?_ ?_ n 0 200 (by omega) (by omega)
    · intro fuel
      show f_X4_goesHour_L49 (fuel + 1) _ _ _ = _
      rw [f_X4_goesHour_L49, inb0, itt, mR_1, tn0, (hW n (Nat.le_refl n)).2.1, if_pos (Int32.le_refl _), h90 _ (hW n (Nat.le_refl n)) x hx]
    · intro fuel w hw
      have hw8 : w < 8 := by omega
      have hWw := hW w (by omega)
      show f_X4_goesHour_L49 (fuel + 1) _ _ _ = f_X4_goesHour_L49 fuel _ _ _
      rw [f_X4_goesHour_L49, inb0, itt, mR_1, tn0, hWw.2.1, if_neg (nI_ge hw (by omega)), m_isFree V _ hw8, Option.bind_some]
      dsimp only
      rw [nI_succ', itW, allR]
      by_cases h : itW allR w Q (sp w 5) = -1
      · rw [if_pos h, if_neg (by decide), if_pos (Or.inl h), m_goes V hWw hw, Option.bind_some]
      · rw [if_neg h, if_pos rfl, m_its5 V _ hw8, Option.bind_some]
        dsimp only
        by_cases h2 : itW allR w Q (sp w 5) < nI w
        · rw [if_pos h2, if_neg (fun z => z.elim h (fun y => y h2))]
        · rw [if_neg h2, if_pos (Or.inr h2), m_goes V hWw hw, Option.bind_some]
  unfold f_X4_goesHour
  rw [m_isFoggy, Option.bind_some]
  dsimp only
  by_cases h : fogB R = true
  · rw [if_pos h, if_pos h]
    show f_X4_goesHour_L7 (199 + 1) _ _ _ = _
    rw [f_X4_goesHour_L7, inb0, itt]
    have e := h49 R hf 1 (Or.inr rfl)
    rw [if_neg (by decide)] at e
    by_cases h2 : (mR V R).1 1 (Int32.toNatClampNeg 0) ≤ 0
    · rw [if_pos h2]; exact e
    · rw [if_neg h2, if_neg (by decide)]; exact e
  · rw [if_neg h, if_neg h]
    have hW : ∀ i, i ≤ n → Wf n T (itW liftR i R) := fun i hi => itW_ind (P := Wf n T) (N := n) (fun w R _ h => h.lift) i R hi hf
    refine loopF (F := fun fuel w => f_X4_goesHour_L7 fuel 0 (nI w) (mR V (itW liftR w R))) (n := n) ?_ ?_ n 0 200 (by omega) (by omega)
    · intro fuel
      show f_X4_goesHour_L7 (fuel + 1) _ _ _ = _
      rw [f_X4_goesHour_L7, inb0, itt, mR_1, tn0, (hW n (Nat.le_refl n)).2.1, if_pos (Int32.le_refl _), h49 _ (hW n (Nat.le_refl n)) 0 (Or.inl rfl), if_pos rfl]
    · intro fuel w hw
      have hw8 : w < 8 := by omega
      show f_X4_goesHour_L7 (fuel + 1) _ _ _ = f_X4_goesHour_L7 fuel _ _ _
      rw [f_X4_goesHour_L7, inb0, itt, mR_1, tn0, (hW w (by omega)).2.1, if_neg (nI_ge hw (by omega)), if_pos rfl, m_its1 V _ hw8, Option.bind_some]
      dsimp only
      rw [inb3, itt, mR_1, tn3, nI_succ', itW, liftR]
      by_cases h2 : itW liftR w R (sp w 1) = itW liftR w R 3
      · rw [if_pos h2, if_pos h2]
      · rw [if_neg h2, if_neg h2, m_isFreed V _ hw8, Option.bind_some]
