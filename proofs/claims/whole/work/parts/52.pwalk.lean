/-! ===== PURE: what one walker does ===== -/
def itR (f : Row → Row) : Nat → Row → Row
  | 0, R => R
  | n + 1, R => f (itR f n R)
def itW (f : Nat → Row → Row) : Nat → Row → Row
  | 0, R => R
  | n + 1, R => f n (itW f n R)
theorem itR_ind {P : Row → Prop} {f : Row → Row} (hf : ∀ R, P R → P (f R)) : ∀ n R, P R → P (itR f n R) := by
  intro n
  induction n with
  | zero => intro R h; exact h
  | succ n ih => intro R h; exact hf _ (ih R h)
theorem itW_ind {P : Row → Prop} {f : Nat → Row → Row} {N : Nat} (hf : ∀ w R, w < N → P R → P (f w R)) : ∀ n R, n ≤ N → P R → P (itW f n R) := by
  intro n
  induction n with
  | zero => intro R _ h; exact h
  | succ n ih => intro R hn h; exact hf n _ (by omega) (ih R (by omega) h)
def turnR (w : Nat) (R : Row) : Row := upd R (sp w 3) ((R (sp w 3) + 1) - (R (sp w 3) + 1) / 4 * 4)
def tow (c h : Int32) : Int32 := if h = 0 then (if 6 ≤ c then c - 6 else -1) else if h = 1 then (if c - c / 6 * 6 = 5 then -1 else c + 1) else if h = 2 then (if c < 30 then c + 6 else -1) else (if c - c / 6 * 6 = 0 then -1 else c - 1)
def stepR (w : Nat) (R : Row) : Row := if tow (R (sp w 1)) (R (sp w 3)) < 0 then turnR w R else upd R (sp w 1) (tow (R (sp w 1)) (R (sp w 3)))
def bringR (w : Nat) (R : Row) : Row := if R (sp w 5) = -1 then R else upd R (sp (R (sp w 5)).toNatClampNeg 1) (R (sp w 1))
def goR (w : Nat) (R : Row) : Row := itR (stepR w) (stepsV (R (sp w 0)) (R 1)).toNatClampNeg (itR (turnR w) (turnsV (R (sp w 0)) (R 1)).toNatClampNeg R)
def liftR (w : Nat) (R : Row) : Row := if R (sp w 1) = R 3 then R else upd (upd R (sp w 5) (-1)) (sp w 6) (-1)
def keepR (w o : Nat) (R : Row) : Row := upd (upd (upd (upd R (sp w 5) (nI o)) (sp o 5) (nI w)) (sp w 6) (R (sp o 4))) (sp o 6) (R (sp w 4))
def relR (w : Nat) (R : Row) : Row := upd (upd (upd (upd R (sp (R (sp w 5)).toNatClampNeg 5) (-1)) (sp (R (sp w 5)).toNatClampNeg 6) (-1)) (sp w 5) (-1)) (sp w 6) (-1)
theorem m4_ok : ∀ h, h < 4 → (nI h + 1) - (nI h + 1) / 4 * 4 = nI ((h + 1) % 4) := by decide
theorem m4_0 : ∀ h, h < 4 → (nI h + 0) - (nI h + 0) / 4 * 4 = nI h := by decide
theorem m4_2 : ∀ h, h < 4 → (nI h + 2) - (nI h + 2) / 4 * 4 = nI ((h + 2) % 4) := by decide
theorem tow_ok : ∀ c, c < 36 → ∀ h, h < 4 → tow (nI c) (nI h) = -1 ∨ ∃ d, d < 36 ∧ tow (nI c) (nI h) = nI d := by
  have key : ∀ c, c < 36 → ∀ h, h < 4 → tow (nI c) (nI h) = -1 ∨ tow (nI c) (nI h) = nI (tow (nI c) (nI h)).toNatClampNeg ∧ (tow (nI c) (nI h)).toNatClampNeg < 36 := by decide
  intro c hc h hh
  rcases key c hc h hh with e | ⟨e, e2⟩
  · exact Or.inl e
  · exact Or.inr ⟨_, e2, e⟩
theorem cm6 : ∀ c, c < 36 → ((5 ≤ nI c - nI c / 6 * 6 ↔ nI c - nI c / 6 * 6 = 5) ∧ (nI c - nI c / 6 * 6 ≤ 0 ↔ nI c - nI c / 6 * 6 = 0)) := by decide
theorem Wf.turn {n T : Nat} {R : Row} (h : Wf n T R) {w : Nat} (hw : w < n) : Wf n T (turnR w R) := by
  obtain ⟨k, hk, e⟩ := (h.2.2.2 w hw).2.2.1
  unfold turnR
  rw [e, m4_ok k hk]
  exact h.head (by omega)
theorem Wf.step {n T : Nat} {R : Row} (h : Wf n T R) {w : Nat} (hw : w < n) : Wf n T (stepR w R) := by
  obtain ⟨c, hc, ec⟩ := (h.2.2.2 w hw).2.1
  obtain ⟨k, hk, ek⟩ := (h.2.2.2 w hw).2.2.1
  unfold stepR
  rw [ec, ek]
  rcases tow_ok c hc k hk with e | ⟨d, hd, e⟩
  · rw [e, if_pos (by decide)]; exact h.turn hw
  · rw [e, if_neg (nI_pos (by omega))]; exact h.cell hd
theorem Wf.go {n T : Nat} {R : Row} (h : Wf n T R) {w : Nat} (hw : w < n) : Wf n T (goR w R) :=
  itR_ind (P := Wf n T) (fun _ h => h.step hw) _ _ (itR_ind (P := Wf n T) (fun _ h => h.turn hw) _ _ h)
theorem Wf.bring {n T : Nat} {R : Row} (h : Wf n T R) {w : Nat} (hw : w < n) : Wf n T (bringR w R) := by
  unfold bringR
  obtain ⟨c, hc, ec⟩ := (h.2.2.2 w hw).2.1
  split
  · exact h
  · rw [ec]; exact h.cell hc
theorem Wf.lift {n T : Nat} {R : Row} (h : Wf n T R) {w : Nat} : Wf n T (liftR w R) := by
  unfold liftR
  split
  · exact h
  · exact (h.wth (Or.inl rfl)).as
theorem Wf.keep {n T : Nat} {R : Row} (h : Wf n T R) {w o : Nat} (hw : w < n) (ho : o < n) : Wf n T (keepR w o R) := by
  unfold keepR
  exact (((h.wth (Or.inr ⟨o, ho, rfl⟩)).wth (Or.inr ⟨w, hw, rfl⟩)).as).as
theorem Wf.rel {n T : Nat} {R : Row} (h : Wf n T R) {w : Nat} : Wf n T (relR w R) := by
  unfold relR
  exact (((h.wth (Or.inl rfl)).as).wth (Or.inl rfl)).as
theorem Z60.it {f : Row → Row} (hf : ∀ R, Z60 R → Z60 (f R)) (n : Nat) {R : Row} (h : Z60 R) : Z60 (itR f n R) := itR_ind hf n R h
theorem Z60.turn {R : Row} (h : Z60 R) {w : Nat} (hw : w < 8) : Z60 (turnR w R) := h.up (sp_lt hw (by decide))
theorem Z60.step {R : Row} (h : Z60 R) {w : Nat} (hw : w < 8) : Z60 (stepR w R) := by
  unfold stepR
  split
  · exact h.turn hw
  · exact h.up (sp_lt hw (by decide))
theorem Z60.go {R : Row} (h : Z60 R) {w : Nat} (hw : w < 8) : Z60 (goR w R) := Z60.it (fun _ h => h.step hw) _ (Z60.it (fun _ h => h.turn hw) _ h)
theorem Wf.q8 {n T : Nat} {R : Row} (h : Wf n T R) {w : Nat} (hw : w < n) (hf : R (sp w 5) ≠ -1) : ∃ q, q < n ∧ q < 8 ∧ R (sp w 5) = nI q ∧ (R (sp w 5)).toNatClampNeg = q := by
  rcases (h.2.2.2 w hw).2.2.2 with e | ⟨q, hq, e⟩
  · exact absurd e hf
  · have := h.1
    exact ⟨q, hq, by omega, e, by rw [e]; exact cl_nI (by omega)⟩
theorem Z60.bring {n T : Nat} {R : Row} (h : Z60 R) (hf : Wf n T R) {w : Nat} (hw : w < n) : Z60 (bringR w R) := by
  unfold bringR
  split
  · exact h
  · rename_i hne
    obtain ⟨q, hq, hq8, e, e2⟩ := hf.q8 hw hne
    rw [e2]
    exact h.up (sp_lt hq8 (by decide))
theorem Z60.lift {R : Row} (h : Z60 R) {w : Nat} (hw : w < 8) : Z60 (liftR w R) := by
  unfold liftR
  split
  · exact h
  · exact (h.up (sp_lt hw (by decide))).up (sp_lt hw (by decide))
theorem Z60.keep {R : Row} (h : Z60 R) {w o : Nat} (hw : w < 8) (ho : o < 8) : Z60 (keepR w o R) := by
  unfold keepR
  exact (((h.up (sp_lt hw (by decide))).up (sp_lt ho (by decide))).up (sp_lt hw (by decide))).up (sp_lt ho (by decide))
theorem Z60.rel {n T : Nat} {R : Row} (h : Z60 R) (hf : Wf n T R) {w : Nat} (hw : w < n) (hne : R (sp w 5) ≠ -1) : Z60 (relR w R) := by
  obtain ⟨q, hq, hq8, e, e2⟩ := hf.q8 hw hne
  have hw8 : w < 8 := Nat.lt_of_lt_of_le hw hf.1
  unfold relR
  rw [e2]
  exact (((h.up (sp_lt hq8 (by decide))).up (sp_lt hq8 (by decide))).up (sp_lt hw8 (by decide))).up (sp_lt hw8 (by decide))
/-! the reference -/
theorem m_turns (V : VV) (R : Row) {w : Nat} (hw : w < 8) : f_X4_turns (nI w) (mR V R) = some (mR V (turnR w R)) := by
  unfold f_X4_turns turnR
  simp only [m_spot3, m_its3 V R hw, isp hw (show 3 < 7 by decide), csp hw (show 3 < 7 by decide), Option.bind_some, bV, mR_1, mR_w, inb0, inb1, inb2, inb3, tn0, tn1, tn2, tn3, itt, if_true]
theorem m_towards (V : VV) (c h : Int32) : f_X4_towards c h V = some (tow c h, V) := by
  unfold f_X4_towards tow
  repeat' split
  all_goals rfl
theorem m_comesF (V : VV) {R : Row} {w : Nat} (hw8 : w < 8) (h : R (sp w 5) = -1) (v : Int32) : f_X4_comesTo (nI w) v (mR V R) = some (mR V (upd R (sp w 1) v)) := by
  have e5 : upd R (sp w 1) v (sp w 5) = -1 := by rw [upd_ne (by unfold sp; omega)]; exact h
  unfold f_X4_comesTo
  rw [m_spot1, Option.bind_some]
  dsimp only
  rw [isp hw8 (show 1 < 7 by decide), itt, csp hw8 (show 1 < 7 by decide), mR_w]
  unfold bV
  dsimp only
  rw [m_isFree V _ hw8, Option.bind_some]
  dsimp only
  rw [if_pos e5, if_neg (by decide)]
theorem m_comesK (V : VV) {R : Row} {w q : Nat} (hw8 : w < 8) (hq8 : q < 8) (h : R (sp w 5) = nI q) (v : Int32) : f_X4_comesTo (nI w) v (mR V R) = some (mR V (upd (upd R (sp w 1) v) (sp q 1) v)) := by
  have e5 : upd R (sp w 1) v (sp w 5) = nI q := by rw [upd_ne (by unfold sp; omega)]; exact h
  have hne : ¬ nI q = -1 := by
    intro e
    have := nI_pos (n := q) (by omega)
    rw [e] at this
    exact this (by decide)
  unfold f_X4_comesTo
  rw [m_spot1, Option.bind_some]
  dsimp only
  rw [isp hw8 (show 1 < 7 by decide), itt, csp hw8 (show 1 < 7 by decide), mR_w]
  unfold bV
  dsimp only
  rw [m_isFree V _ hw8, Option.bind_some]
  dsimp only
  rw [e5, if_neg hne, if_pos rfl, m_its5 V _ hw8, Option.bind_some]
  dsimp only
  rw [e5, m_spot1, Option.bind_some]
  dsimp only
  rw [isp hq8 (show 1 < 7 by decide), itt, csp hq8 (show 1 < 7 by decide), mR_w]
theorem m_comesTo {n T : Nat} (V : VV) {R : Row} (hf : Wf n T R) {w : Nat} (hw : w < n) (v : Int32) : f_X4_comesTo (nI w) v (mR V R) = some (mR V (if R (sp w 5) = -1 then upd R (sp w 1) v else upd (upd R (sp w 1) v) (sp (R (sp w 5)).toNatClampNeg 1) v)) := by
  have hw8 : w < 8 := Nat.lt_of_lt_of_le hw hf.1
  by_cases h : R (sp w 5) = -1
  · rw [if_pos h]; exact m_comesF V hw8 h v
  · rw [if_neg h]
    obtain ⟨q, hq, hq8, e, e2⟩ := hf.q8 hw h
    rw [e2]
    exact m_comesK V hw8 hq8 e v
theorem m_goes {n T : Nat} (V : VV) {R : Row} (hf : Wf n T R) {w : Nat} (hw : w < n) : f_X4_goes (nI w) (mR V R) = some (mR V (bringR w (goR w R))) := by
  have hw8 : w < 8 := Nat.lt_of_lt_of_le hw hf.1
  obtain ⟨a, ha, ea⟩ := turnsV_n (R (sp w 0)) (R 1)
  obtain ⟨b, hb, eb⟩ := stepsV_n (R (sp w 0)) (R 1)
  have hT : ∀ i, Wf n T (itR (turnR w) i R) := fun i => itR_ind (P := Wf n T) (fun _ h => h.turn hw) _ _ hf
  have hS : ∀ i, Wf n T (itR (stepR w) i (itR (turnR w) a R)) := fun i => itR_ind (P := Wf n T) (fun _ h => h.step hw) _ _ (hT a)
  unfold f_X4_goes goR
  simp only [m_turnsOf V R hw8, m_stepsOf V R hw8, Option.bind_some, ea, eb, cl_nI (show a < 2 ^ 31 by omega), cl_nI (show b < 2 ^ 31 by omega)]
  have L35 : f_X4_goes_L35 200 (nI w) (nI b) 0 (mR V (itR (turnR w) a R)) = some (mR V (bringR w (itR (stepR w) b (itR (turnR w) a R)))) := by
    refine loopF (F := fun fuel i => f_X4_goes_L35 fuel (nI w) (nI b) (nI i) (mR V (itR (stepR w) i (itR (turnR w) a R)))) (n := b) ?_ ?_ b 0 200 (by omega) (by omega)
    · intro fuel
      show f_X4_goes_L35 (fuel + 1) _ _ _ _ = _
      rw [f_X4_goes_L35]
      simp only [Int32.le_refl, if_true, m_its1 V _ hw8, Option.bind_some, m_comesTo V (hS b) hw, bringR, upd_self]
    · intro fuel i hi
      show f_X4_goes_L35 (fuel + 1) _ _ _ _ = f_X4_goes_L35 fuel _ _ _ _
      rw [f_X4_goes_L35, if_neg (nI_ge hi (by omega))]
      simp only [m_its1 V _ hw8, m_its3 V _ hw8, m_towards, m_spot1, isp hw8 (show 1 < 7 by decide), csp hw8 (show 1 < 7 by decide), m_turns V _ hw8, nI_succ', Option.bind_some, bV, mR_1, mR_w, inb0, inb1, inb2, inb3, tn0, tn1, tn2, tn3, itt, if_true, itR]
      rw [stepR]
      by_cases hneg : tow (itR (stepR w) i (itR (turnR w) a R) (sp w 1)) (itR (stepR w) i (itR (turnR w) a R) (sp w 3)) < 0
      · rw [if_neg (Int32.not_le.mpr hneg), if_pos hneg]
      · rw [if_pos (Int32.not_lt.mp hneg), if_neg hneg]
  refine loopF (F := fun fuel i => f_X4_goes_L15 fuel (nI w) (nI a) (nI b) (nI i) (mR V (itR (turnR w) i R))) (n := a) ?_ ?_ a 0 200 (by omega) (by omega)
  · intro fuel
    show f_X4_goes_L15 (fuel + 1) _ _ _ _ _ = _
    rw [f_X4_goes_L15, if_pos (Int32.le_refl _)]
    exact L35
  · intro fuel i hi
    show f_X4_goes_L15 (fuel + 1) _ _ _ _ _ = f_X4_goes_L15 fuel _ _ _ _ _
    rw [f_X4_goes_L15, if_neg (nI_ge hi (by omega))]
    simp only [m_turns V _ hw8, Option.bind_some, nI_succ', itR]
theorem m_isFreed (V : VV) (R : Row) {w : Nat} (hw : w < 8) : f_X4_isFreed (nI w) (mR V R) = some (mR V (upd (upd R (sp w 5) (-1)) (sp w 6) (-1))) := by
  unfold f_X4_isFreed
  simp only [m_spot5, m_spot6, isp hw (show 5 < 7 by decide), csp hw (show 5 < 7 by decide), isp hw (show 6 < 7 by decide), csp hw (show 6 < 7 by decide), Option.bind_some, bV, mR_1, mR_w, inb0, inb1, inb2, inb3, tn0, tn1, tn2, tn3, itt, if_true]
theorem m_keeps (V : VV) (R : Row) {w o : Nat} (hw : w < 8) (ho : o < 8) : f_X4_keeps (nI w) (nI o) (mR V R) = some (mR V (keepR w o R)) := by
  unfold f_X4_keeps keepR
  have e1 : upd (upd R (sp w 5) (nI o)) (sp o 5) (nI w) (sp o 4) = R (sp o 4) := by rw [upd_ne (by unfold sp; omega), upd_ne (by unfold sp; omega)]
  have e2 : ∀ v, upd (upd (upd R (sp w 5) (nI o)) (sp o 5) (nI w)) (sp w 6) v (sp w 4) = R (sp w 4) := fun v => by rw [upd_ne (by unfold sp; omega), upd_ne (by unfold sp; omega), upd_ne (by unfold sp; omega)]
  simp only [m_spot5, m_spot6, isp hw (show 5 < 7 by decide), csp hw (show 5 < 7 by decide), isp hw (show 6 < 7 by decide), csp hw (show 6 < 7 by decide), isp ho (show 5 < 7 by decide), csp ho (show 5 < 7 by decide), isp ho (show 6 < 7 by decide), csp ho (show 6 < 7 by decide), m_its4 V _ hw, m_its4 V _ ho, e1, e2, Option.bind_some, bV, mR_1, mR_w, inb0, inb1, inb2, inb3, tn0, tn1, tn2, tn3, itt, if_true]
theorem m_lets {n T : Nat} (V : VV) {R : Row} (hf : Wf n T R) {w : Nat} (hw : w < n) (hne : R (sp w 5) ≠ -1) : f_X4_lets (nI w) (mR V R) = some (R (sp w 5), mR V (relR w R)) := by
  have hw8 : w < 8 := Nat.lt_of_lt_of_le hw hf.1
  obtain ⟨q, hq, hq8, e, e2⟩ := hf.q8 hw hne
  unfold f_X4_lets relR
  simp only [m_its5 V _ hw8, Option.bind_some, e, m_isFreed V _ hq8, m_isFreed V _ hw8, cl8 hq8]
/-! the class -/
theorem k_has (j : Nat) (V : VV) (R : Row) (a : Int32) : f_X0_has j a (pR j V R) = some (if ¬ a < 0 ∧ ¬ R 0 ≤ a then 1 else 0, pR j V R) := by
  unfold f_X0_has
  rw [pR_n]
  by_cases h1 : a < 0 <;> by_cases h2 : R 0 ≤ a <;> simp [h1, h2]
theorem k_hasF (j : Nat) (V : VV) (R : Row) : f_X0_has j (-1) (pR j V R) = some (0, pR j V R) := by
  rw [k_has, if_neg (fun h => h.1 (by decide))]
theorem k_hasT (j : Nat) (V : VV) {R : Row} {n q : Nat} (hn : R 0 = nI n) (hq : q < n) (h8 : n ≤ 8) : f_X0_has j (nI q) (pR j V R) = some (1, pR j V R) := by
  rw [k_has, if_pos ⟨nI_pos (by omega), by rw [hn]; exact nI_ge hq (by omega)⟩]
theorem k_bring {n T : Nat} (j : Nat) (V : VV) {R : Row} (hf : Wf n T R) {w : Nat} (hw : w < n) : f_X0_bringAlong j (nI w) (pR j V R) = some (pR j V (bringR w R)) := by
  have hw8 : w < 8 := Nat.lt_of_lt_of_le hw hf.1
  unfold f_X0_bringAlong bringR
  by_cases h : R (sp w 5) = -1
  · simp only [inb8 hw8, cl8 hw8, pR_6, h, k_hasF, itt, if_true, Option.bind_some]
  · obtain ⟨q, hq, hq8, e, e2⟩ := hf.q8 hw h
    have hne : ¬ nI q = -1 := by rw [← e]; exact h
    simp only [inb8 hw8, cl8 hw8, pR_6, e, k_hasT j V hf.2.1 hq hf.1, inb8 hq8, cl8 hq8, pR_2', pR_w2, itt, if_true, Option.bind_some, bV, if_neg hne, show ¬ (1 : Int32) = 0 by decide, if_false]
theorem k_towards (V : VV) {c : Nat} (hc : c < 36) (h : Int32) : f_X3_cellTowards (nI c) h V = some (tow (nI c) h, V) := by
  unfold f_X3_cellTowards tow
  obtain ⟨e1, e2⟩ := cm6 c hc
  by_cases h0 : h = 0
  · simp only [h0, if_true]
    by_cases a : nI c < 6
    · rw [if_pos a, if_neg (Int32.not_le.mpr a)]
    · rw [if_neg a, if_pos (Int32.not_lt.mp a)]
  · by_cases h1 : h = 1
    · simp only [h0, h1, if_true, if_false, show ¬ (1 : Int32) = 0 by decide]
      by_cases a : nI c - nI c / 6 * 6 = 5
      · rw [if_pos a, if_pos (e1.mpr a)]
      · rw [if_neg a, if_neg (fun z => a (e1.mp z))]
    · by_cases h2 : h = 2
      · simp only [h2, if_true, if_false, show ¬ (2 : Int32) = 0 by decide, show ¬ (2 : Int32) = 1 by decide]
        by_cases a : nI c < 30
        · rw [if_pos a, if_neg (Int32.not_le.mpr a)]
        · rw [if_neg a, if_pos (Int32.not_lt.mp a)]
      · simp only [h0, h1, h2, if_false]
        by_cases a : nI c - nI c / 6 * 6 = 0
        · rw [if_pos a, if_pos (e2.mpr a)]
        · rw [if_neg a, if_neg (fun z => a (e2.mp z))]
theorem upd_upd (R : Row) (p : Nat) (u v : Int32) : upd (upd R p u) p v = upd R p v := by
  funext q
  by_cases h : q = p
  · rw [h, upd_eq, upd_eq]
  · rw [upd_ne h, upd_ne h, upd_ne h]
theorem turns_it {n T : Nat} {R : Row} (hf : Wf n T R) {w : Nat} (hw : w < n) : ∀ a, a ≤ 2 → upd R (sp w 3) ((R (sp w 3) + nI a) - (R (sp w 3) + nI a) / 4 * 4) = itR (turnR w) a R := by
  obtain ⟨h, hh, e⟩ := (hf.2.2.2 w hw).2.2.1
  intro a ha
  rcases (show a = 0 ∨ a = 1 ∨ a = 2 by omega) with rfl | rfl | rfl
  · rw [e, show nI 0 = 0 from rfl, m4_0 h hh, ← e, upd_self]; rfl
  · rw [e, show nI 1 = 1 from rfl]; simp only [itR, turnR]; rw [e]
  · rw [e, show nI 2 = 2 from rfl, m4_2 h hh]
    simp only [itR, turnR]
    rw [upd_eq, upd_upd, e, m4_ok h hh, m4_ok _ (by omega)]
    congr 2
    omega
theorem k_go {n T : Nat} (j : Nat) (V : VV) {R : Row} (hf : Wf n T R) {w : Nat} (hw : w < n) : f_X0_go j (nI w) (pR j V R) = some (pR j V (goR w R)) := by
  have hw8 : w < 8 := Nat.lt_of_lt_of_le hw hf.1
  obtain ⟨a, ha, ea⟩ := turnsV_n (R (sp w 0)) (R 1)
  obtain ⟨b, hb, eb⟩ := stepsV_n (R (sp w 0)) (R 1)
  have hT : Wf n T (itR (turnR w) a R) := itR_ind (P := Wf n T) (fun _ h => h.turn hw) _ _ hf
  have hS : ∀ i, Wf n T (itR (stepR w) i (itR (turnR w) a R)) := fun i => itR_ind (P := Wf n T) (fun _ h => h.step hw) _ _ hT
  have k1 : itR (turnR w) a R (sp w 0) = R (sp w 0) := itR_ind (P := fun Q => Q (sp w 0) = R (sp w 0)) (fun Q h => by rw [turnR, upd_ne (by unfold sp; omega)]; exact h) a R rfl
  have k2 : itR (turnR w) a R 1 = R 1 := itR_ind (P := fun Q => Q 1 = R 1) (fun Q h => by rw [turnR, upd_ne (by unfold sp; omega)]; exact h) a R rfl
  unfold f_X0_go goR
  simp only [inb8 hw8, cl8 hw8, pR_1, pR_4, pR_t, k_turnsOf, k_stepsOf, itt, if_true, Option.bind_some, bV, pR_w4, ea, turns_it hf hw a ha, k1, k2, eb, cl_nI (show a < 2 ^ 31 by omega), cl_nI (show b < 2 ^ 31 by omega)]
  refine loopF (F := fun fuel i => f_X0_go_L44 j fuel (nI w) (nI b) (nI i) (pR j V (itR (stepR w) i (itR (turnR w) a R)))) (n := b) ?_ ?_ b 0 200 (by omega) (by omega)
  · intro fuel
    show f_X0_go_L44 j (fuel + 1) _ _ _ _ = _
    rw [f_X0_go_L44, if_pos (Int32.le_refl _)]
  · intro fuel i hi
    show f_X0_go_L44 j (fuel + 1) _ _ _ _ = f_X0_go_L44 j fuel _ _ _ _
    obtain ⟨c, hc, ec⟩ := ((hS i).2.2.2 w hw).2.1
    rw [f_X0_go_L44, if_neg (nI_ge hi (by omega))]
    simp only [inb8 hw8, cl8 hw8, pR_2', pR_4, ec, k_towards _ hc, itt, if_true, Option.bind_some, bV, pR_w4, pR_w2, nI_succ', itR]
    rw [stepR, ec]
    by_cases hneg : tow (nI c) (itR (stepR w) i (itR (turnR w) a R) (sp w 3)) < 0
    · rw [if_pos hneg, if_pos hneg]; rfl
    · rw [if_neg hneg, if_neg hneg]
theorem k_keep (j : Nat) (V : VV) (R : Row) {w o : Nat} (hw : w < 8) (ho : o < 8) : f_X0_keepTwo j (nI w) (nI o) (pR j V R) = some (pR j V (keepR w o R)) := by
  unfold f_X0_keepTwo
  simp only [inb8 hw, cl8 hw, inb8 ho, cl8 ho, pR_5, pR_w6, pR_w7, itt, if_true, Option.bind_some, bV]
  congr 2
  unfold keepR
  have e1 : upd R (sp w 5) (nI o) (sp o 4) = R (sp o 4) := upd_ne (by unfold sp; omega)
  rw [e1]
  have e2 : upd (upd (upd R (sp w 5) (nI o)) (sp w 6) (R (sp o 4))) (sp o 5) (nI w) (sp w 4) = R (sp w 4) := by rw [upd_ne (by unfold sp; omega), upd_ne (by unfold sp; omega), upd_ne (by unfold sp; omega)]
  rw [e2]
  congr 1
  funext p
  have hne : sp w 6 ≠ sp o 5 := by unfold sp; omega
  by_cases h1 : p = sp w 6
  · rw [h1, upd_ne hne, upd_eq, upd_eq]
  · by_cases h2 : p = sp o 5
    · rw [h2, upd_eq, upd_ne (Ne.symm hne), upd_eq]
    · rw [upd_ne h2, upd_ne h1, upd_ne h1, upd_ne h2]
theorem k_rel {n T : Nat} (j : Nat) (V : VV) {R : Row} (hf : Wf n T R) {w : Nat} (hw : w < n) (hne : R (sp w 5) ≠ -1) : f_X0_release j (nI w) (pR j V R) = some (pR j V (relR w R)) := by
  have hw8 : w < 8 := Nat.lt_of_lt_of_le hw hf.1
  obtain ⟨q, hq, hq8, e, e2⟩ := hf.q8 hw hne
  unfold f_X0_release relR
  simp only [inb8 hw8, cl8 hw8, pR_6, e, k_hasT j V hf.2.1 hq hf.1, inb8 hq8, cl8 hq8, pR_w6, pR_w7, itt, if_true, Option.bind_some, bV, show ¬ (1 : Int32) = 0 by decide, if_false]
theorem k_rel0 (j : Nat) (V : VV) {R : Row} {w : Nat} (hw8 : w < 8) (hne : R (sp w 5) = -1) : f_X0_release j (nI w) (pR j V R) = some (pR j V (upd (upd R (sp w 5) (-1)) (sp w 6) (-1))) := by
  unfold f_X0_release
  simp only [inb8 hw8, cl8 hw8, pR_6, hne, k_hasF, pR_w6, pR_w7, itt, if_true, Option.bind_some, bV]
