/-! ===== PURE: small words ===== -/
theorem itt {α : Type} {x y : α} : (if true = true then x else y) = x := if_pos rfl
theorem inb0 : inb 0 60 = true := by decide
theorem inb1 : inb 1 60 = true := by decide
theorem inb2 : inb 2 60 = true := by decide
theorem inb3 : inb 3 60 = true := by decide
theorem tn0 : Int32.toNatClampNeg 0 = 0 := by decide
theorem tn1 : Int32.toNatClampNeg 1 = 1 := by decide
theorem tn2 : Int32.toNatClampNeg 2 = 2 := by decide
theorem tn3 : Int32.toNatClampNeg 3 = 3 := by decide
theorem b10 {P : Prop} [Decidable P] : ((if P then (1 : Int32) else 0) = 0) ↔ ¬ P := by by_cases h : P <;> simp [h]
theorem b01 {P : Prop} [Decidable P] : ((if P then (0 : Int32) else 1) = 0) ↔ P := by by_cases h : P <;> simp [h]
theorem b10' {P : Prop} [Decidable P] : ((if P then (1 : Int32) else 0) = 1) ↔ P := by by_cases h : P <;> simp [h]
theorem inb8 {w : Nat} (h : w < 8) : inb (nI w) 8 = true := inb_nI h (by decide)
theorem cl8 {w : Nat} (h : w < 8) : Int32.toNatClampNeg (nI w) = w := cl_nI (by omega)
theorem isp {w k : Nat} (hw : w < 8) (hk : k < 7) : inb (nI (sp w k)) 60 = true := inb_nI (sp_lt hw hk) (by decide)
theorem csp {w k : Nat} (hw : w < 8) (hk : k < 7) : Int32.toNatClampNeg (nI (sp w k)) = sp w k := cl_nI (by have := sp_lt hw hk; omega)
theorem nI_succ' (w : Nat) : nI w + 1 = nI (w + 1) := nI_1 w
/-- well-formed: n walkers, HOUR at most T -/
def Wf (n T : Nat) (R : Row) : Prop := n ≤ 8 ∧ R 0 = nI n ∧ (∃ t : Nat, t ≤ T ∧ R 1 = nI t) ∧ ∀ w, w < n → (∃ k, k < 6 ∧ R (sp w 0) = nI k) ∧ (∃ c, c < 36 ∧ R (sp w 1) = nI c) ∧ (∃ h, h < 4 ∧ R (sp w 3) = nI h) ∧ (R (sp w 5) = -1 ∨ ∃ q, q < n ∧ R (sp w 5) = nI q)
theorem Wf.up {n T : Nat} {R : Row} {p : Nat} {v : Int32} (h : Wf n T R) (h0 : p ≠ 0) (h1 : p = 1 → ∃ t : Nat, t ≤ T ∧ v = nI t) (hk : ∀ w, w < n → p = sp w 0 → ∃ k, k < 6 ∧ v = nI k) (hc : ∀ w, w < n → p = sp w 1 → ∃ c, c < 36 ∧ v = nI c) (hh : ∀ w, w < n → p = sp w 3 → ∃ k, k < 4 ∧ v = nI k) (hw : ∀ w, w < n → p = sp w 5 → v = -1 ∨ ∃ q, q < n ∧ v = nI q) : Wf n T (upd R p v) := by
  obtain ⟨g1, g2, g3, g4⟩ := h
  refine ⟨g1, by rw [upd_ne (Ne.symm h0)]; exact g2, ?_, fun w hw' => ?_⟩
  · by_cases e : p = 1
    · obtain ⟨t, a, b⟩ := h1 e
      exact ⟨t, a, by rw [← e, upd_eq]; exact b⟩
    · rw [upd_ne (Ne.symm e)]; exact g3
  · obtain ⟨a1, a2, a3, a4⟩ := g4 w hw'
    refine ⟨?_, ?_, ?_, ?_⟩
    · by_cases e : p = sp w 0
      · obtain ⟨k, a, b⟩ := hk w hw' e
        exact ⟨k, a, by rw [← e, upd_eq]; exact b⟩
      · rw [upd_ne (Ne.symm e)]; exact a1
    · by_cases e : p = sp w 1
      · obtain ⟨k, a, b⟩ := hc w hw' e
        exact ⟨k, a, by rw [← e, upd_eq]; exact b⟩
      · rw [upd_ne (Ne.symm e)]; exact a2
    · by_cases e : p = sp w 3
      · obtain ⟨k, a, b⟩ := hh w hw' e
        exact ⟨k, a, by rw [← e, upd_eq]; exact b⟩
      · rw [upd_ne (Ne.symm e)]; exact a3
    · by_cases e : p = sp w 5
      · rw [← e, upd_eq]; exact hw w hw' e
      · rw [upd_ne (Ne.symm e)]; exact a4
theorem Wf.wide {n T T' : Nat} {R : Row} (h : Wf n T R) (hT : T ≤ T') : Wf n T' R := by
  obtain ⟨g1, g2, ⟨t, g3, g4⟩, g5⟩ := h
  exact ⟨g1, g2, ⟨t, by omega, g4⟩, g5⟩
/-- a place that nothing is asked of -/
theorem Wf.any {n T : Nat} {R : Row} {p : Nat} {v : Int32} (h : Wf n T R) (h0 : 2 ≤ p) (hp : ∀ w, p ≠ sp w 0 ∧ p ≠ sp w 1 ∧ p ≠ sp w 3 ∧ p ≠ sp w 5) : Wf n T (upd R p v) :=
  h.up (by omega) (fun e => by omega) (fun w _ e => absurd e (hp w).1) (fun w _ e => absurd e (hp w).2.1) (fun w _ e => absurd e (hp w).2.2.1) (fun w _ e => absurd e (hp w).2.2.2)
theorem Wf.cell {n T : Nat} {R : Row} (h : Wf n T R) {w c : Nat} (hc : c < 36) : Wf n T (upd R (sp w 1) (nI c)) :=
  h.up (by unfold sp; omega) (fun e => by unfold sp at e; omega) (fun _ _ e => by unfold sp at e; omega) (fun _ _ _ => ⟨c, hc, rfl⟩) (fun _ _ e => by unfold sp at e; omega) (fun _ _ e => by unfold sp at e; omega)
theorem Wf.head {n T : Nat} {R : Row} (h : Wf n T R) {w c : Nat} (hc : c < 4) : Wf n T (upd R (sp w 3) (nI c)) :=
  h.up (by unfold sp; omega) (fun e => by unfold sp at e; omega) (fun _ _ e => by unfold sp at e; omega) (fun _ _ e => by unfold sp at e; omega) (fun _ _ _ => ⟨c, hc, rfl⟩) (fun _ _ e => by unfold sp at e; omega)
theorem Wf.kind {n T : Nat} {R : Row} (h : Wf n T R) {w c : Nat} (hc : c < 6) : Wf n T (upd R (sp w 0) (nI c)) :=
  h.up (by unfold sp; omega) (fun e => by unfold sp at e; omega) (fun _ _ _ => ⟨c, hc, rfl⟩) (fun _ _ e => by unfold sp at e; omega) (fun _ _ e => by unfold sp at e; omega) (fun _ _ e => by unfold sp at e; omega)
theorem Wf.wth {n T : Nat} {R : Row} (h : Wf n T R) {w : Nat} {v : Int32} (hc : v = -1 ∨ ∃ q, q < n ∧ v = nI q) : Wf n T (upd R (sp w 5) v) :=
  h.up (by unfold sp; omega) (fun e => by unfold sp at e; omega) (fun _ _ e => by unfold sp at e; omega) (fun _ _ e => by unfold sp at e; omega) (fun _ _ e => by unfold sp at e; omega) (fun _ _ _ => hc)
theorem Wf.as {n T : Nat} {R : Row} (h : Wf n T R) {w : Nat} {v : Int32} : Wf n T (upd R (sp w 6) v) := h.any (by unfold sp; omega) (fun u => by unfold sp; omega)
theorem Wf.hope {n T : Nat} {R : Row} (h : Wf n T R) {w : Nat} {v : Int32} : Wf n T (upd R (sp w 4) v) := h.any (by unfold sp; omega) (fun u => by unfold sp; omega)
theorem Wf.start {n T : Nat} {R : Row} (h : Wf n T R) {w : Nat} {v : Int32} : Wf n T (upd R (sp w 2) v) := h.any (by unfold sp; omega) (fun u => by unfold sp; omega)
theorem Wf.fog {n T : Nat} {R : Row} (h : Wf n T R) {v : Int32} : Wf n T (upd R 2 v) := h.any (by omega) (fun u => by unfold sp; omega)
theorem Wf.vil {n T : Nat} {R : Row} (h : Wf n T R) {v : Int32} : Wf n T (upd R 3 v) := h.any (by omega) (fun u => by unfold sp; omega)
theorem Wf.time {n T t : Nat} {R : Row} (h : Wf n T R) (ht : t ≤ T) : Wf n T (upd R 1 (nI t)) :=
  h.up (by omega) (fun _ => ⟨t, ht, rfl⟩) (fun _ _ e => by unfold sp at e; omega) (fun _ _ e => by unfold sp at e; omega) (fun _ _ e => by unfold sp at e; omega) (fun _ _ e => by unfold sp at e; omega)
/-! ===== what one walker reads ===== -/
theorem m_its (V : VV) (R : Row) {w k : Nat} (hw : w < 8) (hk : k < 7) : f_X4_its (nI w) (nI k) (mR V R) = some (R (sp w k), mR V R) := by
  unfold f_X4_its f_X4_spotOf
  simp only [Option.bind_some, spot_nI, isp hw hk, csp hw hk, mR_1, itt, if_true]
theorem m_its0 (V : VV) (R : Row) {w : Nat} (hw : w < 8) : f_X4_its (nI w) 0 (mR V R) = some (R (sp w 0), mR V R) := m_its V R hw (k := 0) (by decide)
theorem m_spot0 (V : VV) (w : Nat) : f_X4_spotOf (nI w) 0 V = some (nI (sp w 0), V) := by show some ((4 + 7 * nI w) + nI 0, V) = _; rw [spot_nI]
theorem m_its1 (V : VV) (R : Row) {w : Nat} (hw : w < 8) : f_X4_its (nI w) 1 (mR V R) = some (R (sp w 1), mR V R) := m_its V R hw (k := 1) (by decide)
theorem m_spot1 (V : VV) (w : Nat) : f_X4_spotOf (nI w) 1 V = some (nI (sp w 1), V) := by show some ((4 + 7 * nI w) + nI 1, V) = _; rw [spot_nI]
theorem m_its2 (V : VV) (R : Row) {w : Nat} (hw : w < 8) : f_X4_its (nI w) 2 (mR V R) = some (R (sp w 2), mR V R) := m_its V R hw (k := 2) (by decide)
theorem m_spot2 (V : VV) (w : Nat) : f_X4_spotOf (nI w) 2 V = some (nI (sp w 2), V) := by show some ((4 + 7 * nI w) + nI 2, V) = _; rw [spot_nI]
theorem m_its3 (V : VV) (R : Row) {w : Nat} (hw : w < 8) : f_X4_its (nI w) 3 (mR V R) = some (R (sp w 3), mR V R) := m_its V R hw (k := 3) (by decide)
theorem m_spot3 (V : VV) (w : Nat) : f_X4_spotOf (nI w) 3 V = some (nI (sp w 3), V) := by show some ((4 + 7 * nI w) + nI 3, V) = _; rw [spot_nI]
theorem m_its4 (V : VV) (R : Row) {w : Nat} (hw : w < 8) : f_X4_its (nI w) 4 (mR V R) = some (R (sp w 4), mR V R) := m_its V R hw (k := 4) (by decide)
theorem m_spot4 (V : VV) (w : Nat) : f_X4_spotOf (nI w) 4 V = some (nI (sp w 4), V) := by show some ((4 + 7 * nI w) + nI 4, V) = _; rw [spot_nI]
theorem m_its5 (V : VV) (R : Row) {w : Nat} (hw : w < 8) : f_X4_its (nI w) 5 (mR V R) = some (R (sp w 5), mR V R) := m_its V R hw (k := 5) (by decide)
theorem m_spot5 (V : VV) (w : Nat) : f_X4_spotOf (nI w) 5 V = some (nI (sp w 5), V) := by show some ((4 + 7 * nI w) + nI 5, V) = _; rw [spot_nI]
theorem m_its6 (V : VV) (R : Row) {w : Nat} (hw : w < 8) : f_X4_its (nI w) 6 (mR V R) = some (R (sp w 6), mR V R) := m_its V R hw (k := 6) (by decide)
theorem m_spot6 (V : VV) (w : Nat) : f_X4_spotOf (nI w) 6 V = some (nI (sp w 6), V) := by show some ((4 + 7 * nI w) + nI 6, V) = _; rw [spot_nI]
theorem m_isFree (V : VV) (R : Row) {w : Nat} (hw : w < 8) : f_X4_isFree (nI w) (mR V R) = some (if R (sp w 5) = -1 then 1 else 0, mR V R) := by
  unfold f_X4_isFree
  simp only [m_its5 V R hw, Option.bind_some]
  split <;> rfl
theorem k_isFree (j : Nat) (V : VV) (R : Row) {w : Nat} (hw : w < 8) : f_X0_isFree j (nI w) (pR j V R) = some (if R (sp w 5) = -1 then 1 else 0, pR j V R) := by
  unfold f_X0_isFree
  simp only [inb8 hw, cl8 hw, pR_6, itt, if_true]
  split <;> rfl
def gladR (R : Row) (w : Nat) : Prop := R (sp w 5) ≠ -1 ∧ R (sp w 5) ≠ nI w ∧ R (sp w 6) = R (sp w 4)
def gladB (R : Row) (w : Nat) : Bool := !decide (R (sp w 5) = -1) && (!decide (R (sp w 5) = nI w) && decide (R (sp w 6) = R (sp w 4)))
theorem m_isGlad (V : VV) (R : Row) {w : Nat} (hw : w < 8) : f_X4_isGlad (nI w) (mR V R) = some (if gladB R w = true then 1 else 0, mR V R) := by
  unfold f_X4_isGlad gladB
  simp only [m_isFree V R hw, m_its5 V R hw, m_its6 V R hw, m_its4 V R hw, Option.bind_some, b10]
  by_cases h1 : R (sp w 5) = -1 <;> by_cases h2 : R (sp w 5) = nI w <;> by_cases h3 : R (sp w 6) = R (sp w 4) <;> simp [h1, h2, h3]
theorem k_isGlad (j : Nat) (V : VV) (R : Row) {w : Nat} (hw : w < 8) : f_X0_isGlad j (nI w) (pR j V R) = some (if gladB R w = true then 1 else 0, pR j V R) := by
  unfold f_X0_isGlad gladB
  simp only [k_isFree j V R hw, inb8 hw, cl8 hw, pR_6, pR_7, pR_5, itt, if_true, Option.bind_some, b10]
  by_cases h1 : R (sp w 5) = -1 <;> by_cases h2 : R (sp w 5) = nI w <;> by_cases h3 : R (sp w 6) = R (sp w 4) <;> simp [h1, h2, h3]
def fogB (R : Row) : Bool := decide (((R 2 >>> ((R 1 - R 1 / 24 * 24) &&& 31)) &&& 1) = 1)
theorem m_isFoggy (V : VV) (R : Row) : f_X4_isFoggy (mR V R) = some (if fogB R = true then 1 else 0, mR V R) := by
  unfold f_X4_isFoggy fogB
  simp only [Option.bind_some, bV, mR_1, mR_w, inb0, inb1, inb2, inb3, tn0, tn1, tn2, tn3, itt, if_true]
  by_cases h : ((R 2 >>> ((R 1 - R 1 / 24 * 24) &&& 31)) &&& 1) = 1 <;> simp [h]
theorem k_isFoggy (j : Nat) (V : VV) (R : Row) : f_X0_isFoggy j (pR j V R) = some (if fogB R = true then 1 else 0, pR j V R) := by
  unfold f_X0_isFoggy fogB
  simp only [pR_f, pR_t]
  by_cases h : ((R 2 >>> ((R 1 - R 1 / 24 * 24) &&& 31)) &&& 1) = 1 <;> simp [h]
def stepsV (k t : Int32) : Int32 := if k = 2 then (if t - t / 2 * 2 = 0 then 1 else 0) else if k = 3 then 0 else if k = 4 then 2 else if k = 5 then (if t - t / 2 * 2 = 0 then 1 else 0) + (if t - t / 3 * 3 = 0 then 1 else 0) else 1
def turnsV (k t : Int32) : Int32 := if k = 1 then (if t - t / 3 * 3 = 0 then 1 else 0) else if k = 2 then 0 else if k = 3 then 1 else if k = 4 then (if t - t / 3 * 3 = 0 then 1 else 0) else if k = 5 then (if t - t / 4 * 4 = 1 then 2 else 0) else 0
theorem k_stepsOf (V : VV) (k t : Int32) : f_X3_stepsOf k t V = some (stepsV k t, V) := by
  unfold f_X3_stepsOf f_X3_widowSteps f_X3_everyThird stepsV
  by_cases h2 : k = 2 <;> by_cases h3 : k = 3 <;> by_cases h4 : k = 4 <;> by_cases h5 : k = 5 <;> by_cases e2 : t - t / 2 * 2 = 0 <;> by_cases e3 : t - t / 3 * 3 = 0 <;> simp [h2, h3, h4, h5, e2, e3]
theorem k_turnsOf (V : VV) (k t : Int32) : f_X3_turnsOf k t V = some (turnsV k t, V) := by
  unfold f_X3_turnsOf f_X3_everyThird turnsV
  by_cases h1 : k = 1 <;> by_cases h2 : k = 2 <;> by_cases h3 : k = 3 <;> by_cases h4 : k = 4 <;> by_cases h5 : k = 5 <;> by_cases e2 : t - t / 4 * 4 = 1 <;> by_cases e3 : t - t / 3 * 3 = 0 <;> simp [h1, h2, h3, h4, h5, e2, e3]
theorem m_stepsOf (V : VV) (R : Row) {w : Nat} (hw : w < 8) : f_X4_stepsOf (nI w) (mR V R) = some (stepsV (R (sp w 0)) (R 1), mR V R) := by
  unfold f_X4_stepsOf stepsV
  simp only [m_its0 V R hw, Option.bind_some, bV, mR_1, mR_w, inb0, inb1, inb2, inb3, tn0, tn1, tn2, tn3, itt, if_true]
  generalize R (sp w 0) = k
  generalize R 1 = t
  by_cases h2 : k = 2 <;> by_cases h3 : k = 3 <;> by_cases h4 : k = 4 <;> by_cases h5 : k = 5 <;> by_cases e2 : t - t / 2 * 2 = 0 <;> by_cases e3 : t - t / 3 * 3 = 0 <;> simp [h2, h3, h4, h5, e2, e3]
theorem m_turnsOf (V : VV) (R : Row) {w : Nat} (hw : w < 8) : f_X4_turnsOf (nI w) (mR V R) = some (turnsV (R (sp w 0)) (R 1), mR V R) := by
  unfold f_X4_turnsOf turnsV
  simp only [m_its0 V R hw, Option.bind_some, bV, mR_1, mR_w, inb0, inb1, inb2, inb3, tn0, tn1, tn2, tn3, itt, if_true]
  generalize R (sp w 0) = k
  generalize R 1 = t
  by_cases h1 : k = 1 <;> by_cases h2 : k = 2 <;> by_cases h3 : k = 3 <;> by_cases h4 : k = 4 <;> by_cases h5 : k = 5 <;> by_cases e2 : t - t / 4 * 4 = 1 <;> by_cases e3 : t - t / 3 * 3 = 0 <;> simp [h1, h2, h3, h4, h5, e2, e3]
theorem stepsV_n (k t : Int32) : ∃ n : Nat, n ≤ 2 ∧ stepsV k t = nI n := by
  unfold stepsV
  by_cases h2 : k = 2 <;> by_cases h3 : k = 3 <;> by_cases h4 : k = 4 <;> by_cases h5 : k = 5 <;> by_cases e2 : t - t / 2 * 2 = 0 <;> by_cases e3 : t - t / 3 * 3 = 0 <;> simp only [h2, h3, h4, h5, e2, e3, if_true, if_false] <;> first | exact ⟨0, by decide, by decide⟩ | exact ⟨1, by decide, by decide⟩ | exact ⟨2, by decide, by decide⟩
theorem turnsV_n (k t : Int32) : ∃ n : Nat, n ≤ 2 ∧ turnsV k t = nI n := by
  unfold turnsV
  by_cases h1 : k = 1 <;> by_cases h2 : k = 2 <;> by_cases h3 : k = 3 <;> by_cases h4 : k = 4 <;> by_cases h5 : k = 5 <;> by_cases e2 : t - t / 4 * 4 = 1 <;> by_cases e3 : t - t / 3 * 3 = 0 <;> simp only [h1, h2, h3, h4, h5, e2, e3, if_true, if_false] <;> first | exact ⟨0, by decide, by decide⟩ | exact ⟨1, by decide, by decide⟩ | exact ⟨2, by decide, by decide⟩
