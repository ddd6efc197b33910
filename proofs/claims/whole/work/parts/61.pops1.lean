/-! ===== PURE: calls, the plain ones ===== -/
theorem one0 : ((1 : Int32) = 0) = False := eq_false (by decide)
theorem Rel.at {VC VM : VV} (h : Rel VC VM) : ∃ (n : Nat) (R : Row), Wf n 99999 R ∧ FogOk R ∧ Z60 R ∧ pR 0 VC R = VC ∧ mR VM R = VM ∧ rowC 0 VC = R ∧ VM.1 1 = R := by
  obtain ⟨n, a1, a2, a3, a4⟩ := h.1
  exact ⟨n, VM.1 1, a2, a3, a4, by rw [← a1, pR_row], mR_row VM, a1, rfl⟩
/-- an answer of both that is the same, and the relation again -/
abbrev Both (f g : Option (Int32 × VV)) : Prop := ∃ r VC' VM', f = some (r, VC') ∧ g = some (r, VM') ∧ Rel VC' VM'
theorem m_becomes (V : VV) (R : Row) {p : Nat} (hp : p < 60) (v : Int32) : f_X4_becomes (nI p) v (mR V R) = some (R p, mR V (upd R p v)) := by
  unfold f_X4_becomes
  rw [inb60 hp, itt, itt, cl_nI (by omega), mR_1, mR_w]
  rfl
theorem FogOk.up {R : Row} (h : FogOk R) {p : Nat} {v : Int32} (hp : p ≠ 2) : FogOk (upd R p v) := by
  obtain ⟨f, h1, h2⟩ := h
  exact ⟨f, h1, by rw [upd_ne (Ne.symm hp)]; exact h2⟩
theorem sp2 (w k : Nat) : sp w k ≠ 2 := by unfold sp; omega
theorem op_fog {VC VM : VV} (h : Rel VC VM) (a : Int32) : Both (f_X3_fog a VC) (f_X4_fog a VM) := by
  obtain ⟨n, R, hw, hf, hz, eC, eM, -, -⟩ := h.at
  unfold f_X3_fog f_X4_fog
  rcases rng a 16777216 (by decide) with ha | ⟨j, hj, rfl⟩
  · rw [m_inN a 0 16777215 (by decide) (by decide) VM (ha.imp id (lt_of_le_succ (N := 16777215) (by decide)))]
    by_cases h0 : a < 0
    · rw [if_pos h0]
      simp only [k_find0, m_find0, Option.bind_some, if_true, if_false, one0, eq_self, bV, itt]
      exact ⟨_, _, _, rfl, rfl, h.find 0⟩
    · rw [if_neg h0, if_neg (show ¬ a ≤ (16777215 : Int32) from Int32.not_le.mpr (lt_of_le_succ (N := 16777215) (by decide) (ha.resolve_left h0)))]
      simp only [k_find0, m_find0, Option.bind_some, if_true, if_false, one0, eq_self, bV, itt]
      exact ⟨_, _, _, rfl, rfl, h.find 0⟩
  · rw [m_inY (nI j) 0 16777215 (by decide) (by decide) VM (nI_pos (by omega)) (show ¬ nI 16777215 < nI j from nI_nlt (by omega) (by decide)), if_neg (nI_pos (by omega)), if_pos (show nI j ≤ (16777215 : Int32) from nI_le (b := 16777215) (by omega) (by decide))]
    rw [← eC, ← eM]
    simp only [Option.bind_some, if_true, if_false, one0, eq_self, bV, itt, pR_f, pR_wf, show (2 : Int32) = nI 2 from rfl, m_becomes VM R (show 2 < 60 by decide)]
    refine ⟨_, _, _, rfl, rfl, ?_⟩
    exact h.row hw.fog ⟨j, hj, upd_eq _ _ _⟩ (hz.up (by decide))
theorem op_village {VC VM : VV} (h : Rel VC VM) (a : Int32) : Both (f_X3_village a VC) (f_X4_village a VM) := by
  obtain ⟨n, R, hw, hf, hz, eC, eM, -, -⟩ := h.at
  unfold f_X3_village f_X4_village
  rcases rng a 36 (by decide) with ha | ⟨j, hj, rfl⟩
  · simp only [m_isCell_n ha, k_isCell_n ha, k_find0, m_find0, Option.bind_some, if_true, if_false, one0, eq_self, bV, itt]
    exact ⟨_, _, _, rfl, rfl, h.find 0⟩
  · simp only [m_isCell_y hj, k_isCell_y hj, Option.bind_some, if_true, if_false, one0, eq_self, bV, itt]
    rw [← eC, ← eM]
    simp only [pR_v, pR_wv, show (3 : Int32) = nI 3 from rfl, m_becomes VM R (show 3 < 60 by decide), Option.bind_some, if_true, if_false, one0, eq_self, bV, itt]
    refine ⟨_, _, _, rfl, rfl, ?_⟩
    exact h.row hw.vil (hf.up (by decide)) (hz.up (by decide))
theorem op_at {VC VM : VV} (h : Rel VC VM) (a : Int32) : Both (f_X3_at a VC) (f_X4_at a VM) := by
  obtain ⟨n, R, hw, hf, hz, eC, eM, -, -⟩ := h.at
  unfold f_X3_at f_X4_at
  rcases rng a 36 (by decide) with ha | ⟨j, hj, rfl⟩
  · simp only [m_isCell_n ha, k_isCell_n ha, k_find0, m_find0, Option.bind_some, if_true, if_false, one0, eq_self, bV, itt]
    exact ⟨_, _, _, rfl, rfl, h.find 0⟩
  · simp only [m_isCell_y hj, k_isCell_y hj, Option.bind_some, if_true, if_false, one0, eq_self, bV, itt]
    rw [← eC, ← eM]
    simp only [k_setAt 0 VC hw.1 hw.2.1, m_thoseAt VM hw.1 hw.2.1, Option.bind_some, if_true, if_false, one0, eq_self, bV, itt]
    refine ⟨_, _, _, rfl, rfl, ?_⟩
    rw [eC, eM]
    exact h
/-- one more comes -/
def comeR (n : Nat) (k c : Int32) (R : Row) : Row := upd (upd (upd (upd (upd (upd (upd (upd R (sp n 0) k) (sp n 1) c) (sp n 2) c) (sp n 3) 0) (sp n 4) 0) (sp n 5) (-1)) (sp n 6) (-1)) 0 (nI n + 1)
theorem come_0 (n : Nat) (k c : Int32) {R : Row} (hn : R 0 = nI n) : upd (upd (upd (upd (upd (upd (upd R (sp n 0) k) (sp n 1) c) (sp n 2) c) (sp n 3) 0) (sp n 4) 0) (sp n 5) (-1)) (sp n 6) (-1) 0 = nI n := by
  have e : ∀ k, 0 ≠ sp n k := fun k => by unfold sp; omega
  rw [upd_ne (e 6), upd_ne (e 5), upd_ne (e 4), upd_ne (e 3), upd_ne (e 2), upd_ne (e 1), upd_ne (e 0)]
  exact hn
theorem k_come {n : Nat} (j : Nat) (V : VV) {R : Row} (h8 : n < 8) (hn : R 0 = nI n) (k c : Int32) : f_X0_come j k c (pR j V R) = some (nI n, pR j V (comeR n k c R)) := by
  unfold f_X0_come f_X0_hasRoom
  rw [pR_n, hn, if_neg (show ¬ (8 : Int32) ≤ nI n from nI_ge h8 (by decide))]
  simp only [Option.bind_some, if_true, if_false, one0, eq_self, bV, itt, pR_n, hn, inb8 h8, cl8 h8, pR_w1, pR_w2, pR_w3, pR_w4, pR_w5, pR_w6, pR_w7, come_0 n k c hn, pR_wn]
  rfl
theorem m_adds {n : Nat} (V : VV) {R : Row} (h8 : n < 8) (hn : R 0 = nI n) (k c : Int32) : f_X4_adds k c (mR V R) = some (nI n, mR V (comeR n k c R)) := by
  unfold f_X4_adds
  simp only [Option.bind_some, if_true, if_false, one0, eq_self, bV, itt, inb0, tn0, mR_1, mR_w, hn, m_spot0, m_spot1, m_spot2, m_spot3, m_spot4, m_spot5, m_spot6, isp h8 (show 0 < 7 by decide), isp h8 (show 1 < 7 by decide), isp h8 (show 2 < 7 by decide), isp h8 (show 3 < 7 by decide), isp h8 (show 4 < 7 by decide), isp h8 (show 5 < 7 by decide), isp h8 (show 6 < 7 by decide), csp h8 (show 0 < 7 by decide), csp h8 (show 1 < 7 by decide), csp h8 (show 2 < 7 by decide), csp h8 (show 3 < 7 by decide), csp h8 (show 4 < 7 by decide), csp h8 (show 5 < 7 by decide), csp h8 (show 6 < 7 by decide), come_0 n k c hn]
  rfl
theorem come_at {n : Nat} {k c : Int32} {R : Row} {w b : Nat} (hb : b < 7) (hw : w ≠ n) : comeR n k c R (sp w b) = R (sp w b) := by
  have e : ∀ i, i < 7 → sp w b ≠ sp n i := fun i hi h => hw (sp_inj hb hi h).1
  unfold comeR
  rw [upd_ne (by unfold sp; omega), upd_ne (e 6 (by decide)), upd_ne (e 5 (by decide)), upd_ne (e 4 (by decide)), upd_ne (e 3 (by decide)), upd_ne (e 2 (by decide)), upd_ne (e 1 (by decide)), upd_ne (e 0 (by decide))]
theorem come_new {n : Nat} {k c : Int32} {R : Row} : comeR n k c R (sp n 0) = k ∧ comeR n k c R (sp n 1) = c ∧ comeR n k c R (sp n 3) = 0 ∧ comeR n k c R (sp n 5) = -1 := by
  have e : ∀ i j, i < 7 → j < 7 → i ≠ j → sp n i ≠ sp n j := fun i j hi hj h q => h (sp_inj hi hj q).2
  have z : ∀ i, sp n i ≠ 0 := fun i => by unfold sp; omega
  unfold comeR
  refine ⟨?_, ?_, ?_, ?_⟩
  · rw [upd_ne (z 0), upd_ne (e 0 6 (by decide) (by decide) (by decide)), upd_ne (e 0 5 (by decide) (by decide) (by decide)), upd_ne (e 0 4 (by decide) (by decide) (by decide)), upd_ne (e 0 3 (by decide) (by decide) (by decide)), upd_ne (e 0 2 (by decide) (by decide) (by decide)), upd_ne (e 0 1 (by decide) (by decide) (by decide)), upd_eq]
  · rw [upd_ne (z 1), upd_ne (e 1 6 (by decide) (by decide) (by decide)), upd_ne (e 1 5 (by decide) (by decide) (by decide)), upd_ne (e 1 4 (by decide) (by decide) (by decide)), upd_ne (e 1 3 (by decide) (by decide) (by decide)), upd_ne (e 1 2 (by decide) (by decide) (by decide)), upd_eq]
  · rw [upd_ne (z 3), upd_ne (e 3 6 (by decide) (by decide) (by decide)), upd_ne (e 3 5 (by decide) (by decide) (by decide)), upd_ne (e 3 4 (by decide) (by decide) (by decide)), upd_eq]
  · rw [upd_ne (z 5), upd_ne (e 5 6 (by decide) (by decide) (by decide)), upd_eq]
theorem Wf.come {n T : Nat} {R : Row} (h : Wf n T R) (h8 : n < 8) {k c : Nat} (hk : k < 6) (hc : c < 36) : Wf (n + 1) T (comeR n (nI k) (nI c) R) := by
  obtain ⟨g1, g2, g3, g4⟩ := h
  obtain ⟨c1, c2, c3, c4⟩ := come_new (n := n) (k := nI k) (c := nI c) (R := R)
  have z : ∀ i, 1 ≠ sp n i := fun i => by unfold sp; omega
  refine ⟨by omega, ?_, ?_, fun w hw => ?_⟩
  · unfold comeR; rw [upd_eq, nI_succ']
  · unfold comeR; rw [upd_ne (by decide), upd_ne (z 6), upd_ne (z 5), upd_ne (z 4), upd_ne (z 3), upd_ne (z 2), upd_ne (z 1), upd_ne (z 0)]; exact g3
  · by_cases e : w = n
    · subst e
      exact ⟨⟨k, hk, c1⟩, ⟨c, hc, c2⟩, ⟨0, by decide, c3⟩, Or.inl c4⟩
    · obtain ⟨a1, a2, a3, a4⟩ := g4 w (by omega)
      rw [come_at (by decide) e, come_at (by decide) e, come_at (by decide) e, come_at (by decide) e]
      exact ⟨a1, a2, a3, a4.imp id (fun ⟨q, hq, e⟩ => ⟨q, by omega, e⟩)⟩
theorem Z60.come {n : Nat} {R : Row} (h : Z60 R) (h8 : n < 8) {k c : Int32} : Z60 (comeR n k c R) := by
  have e : ∀ i, i < 7 → sp n i < 60 := fun i hi => sp_lt h8 hi
  exact (((((((h.up (e 0 (by decide))).up (e 1 (by decide))).up (e 2 (by decide))).up (e 3 (by decide))).up (e 4 (by decide))).up (e 5 (by decide))).up (e 6 (by decide))).up (by decide)
theorem FogOk.come {n : Nat} {R : Row} (h : FogOk R) {k c : Int32} : FogOk (comeR n k c R) :=
  ((((((((h.up (sp2 n 0)).up (sp2 n 1)).up (sp2 n 2)).up (sp2 n 3)).up (sp2 n 4)).up (sp2 n 5)).up (sp2 n 6)).up (by decide))
theorem op_walker {VC VM : VV} (h : Rel VC VM) (a b : Int32) : Both (f_X3_walker a b VC) (f_X4_walker a b VM) := by
  obtain ⟨n, R, hw, hf, hz, eC, eM, -, -⟩ := h.at
  unfold f_X3_walker f_X4_walker
  rcases rng a 6 (by decide) with ha | ⟨k, hk, rfl⟩
  · simp only [m_isKind_n ha, k_isKind_n ha, k_find0, m_find0, Option.bind_some, if_true, if_false, one0, eq_self, bV, itt]
    exact ⟨_, _, _, rfl, rfl, h.find 0⟩
  · rcases rng b 36 (by decide) with hb | ⟨c, hc, rfl⟩
    · simp only [m_isKind_y hk, k_isKind_y hk, m_isCell_n hb, k_isCell_n hb, k_find0, m_find0, Option.bind_some, if_true, if_false, one0, eq_self, bV, itt]
      exact ⟨_, _, _, rfl, rfl, h.find 0⟩
    · simp only [m_isKind_y hk, k_isKind_y hk, m_isCell_y hc, k_isCell_y hc, Option.bind_some, if_true, if_false, one0, eq_self, bV, itt, inb0, tn0]
      rw [← eC, ← eM, mR_1, hw.2.1]
      by_cases h8 : n < 8
      · have e8 : ¬ nI n = 8 := fun e => by have := (nI_eq (a := n) (b := 8) (by omega) (by decide)).mp e; omega
        have er : f_X0_hasRoom 0 (pR 0 VC R) = some (1, pR 0 VC R) := by unfold f_X0_hasRoom; rw [pR_n, hw.2.1, if_neg (show ¬ (8 : Int32) ≤ nI n from nI_ge h8 (by decide))]
        rw [if_neg e8]
        simp only [er, Option.bind_some, if_true, if_false, one0, eq_self, bV, itt, k_come 0 VC h8 hw.2.1, m_adds VM h8 hw.2.1]
        refine ⟨_, _, _, rfl, rfl, ?_⟩
        exact h.row (hw.come h8 hk hc) hf.come (hz.come h8)
      · have e8 : n = 8 := by have := hw.1; omega
        have er : f_X0_hasRoom 0 (pR 0 VC R) = some (0, pR 0 VC R) := by unfold f_X0_hasRoom; rw [pR_n, hw.2.1, e8, if_pos (show (8 : Int32) ≤ nI 8 by decide)]
        rw [e8, if_pos (show nI 8 = (8 : Int32) from rfl)]
        simp only [er, Option.bind_some, if_true, if_false, one0, eq_self, bV, itt, k_find1, m_find1]
        refine ⟨_, _, _, rfl, rfl, ?_⟩
        rw [eC, eM]
        exact h.find 1
theorem tell_at (V : VV) (R : Row) {w : Nat} (hw : w < 8) (j : Nat) : ∀ k, k < 7 → f_X0_tell j (nI w) (nI k) (pR j V R) = some (R (sp w k), pR j V R) := by
  intro k hk
  unfold f_X0_tell
  rcases (show k = 0 ∨ k = 1 ∨ k = 2 ∨ k = 3 ∨ k = 4 ∨ k = 5 ∨ k = 6 by omega) with rfl | rfl | rfl | rfl | rfl | rfl | rfl
  · rw [if_pos (by decide), inb8 hw, itt, cl8 hw, pR_1]
  · rw [if_neg (by decide), if_pos (by decide), inb8 hw, itt, cl8 hw, pR_2']
  · rw [if_neg (by decide), if_neg (by decide), if_pos (by decide), inb8 hw, itt, cl8 hw, pR_3]
  · rw [if_neg (by decide), if_neg (by decide), if_neg (by decide), if_pos (by decide), inb8 hw, itt, cl8 hw, pR_4]
  · rw [if_neg (by decide), if_neg (by decide), if_neg (by decide), if_neg (by decide), if_pos (by decide), inb8 hw, itt, cl8 hw, pR_5]
  · rw [if_neg (by decide), if_neg (by decide), if_neg (by decide), if_neg (by decide), if_neg (by decide), if_pos (by decide), inb8 hw, itt, cl8 hw, pR_6]
  · rw [if_neg (by decide), if_neg (by decide), if_neg (by decide), if_neg (by decide), if_neg (by decide), if_neg (by decide), if_pos (by decide), inb8 hw, itt, cl8 hw, pR_7]
theorem tell_7 (V : VV) (R : Row) {w : Nat} (hw : w < 8) (j : Nat) : f_X0_tell j (nI w) 7 (pR j V R) = some (stepsV (R (sp w 0)) (R 1), pR j V R) := by
  unfold f_X0_tell
  rw [if_neg (by decide), if_neg (by decide), if_neg (by decide), if_neg (by decide), if_neg (by decide), if_neg (by decide), if_neg (by decide), if_pos rfl, inb8 hw, itt, cl8 hw, pR_1, pR_t, k_stepsOf]
  rfl
theorem tell_8 (V : VV) (R : Row) {w : Nat} (hw : w < 8) (j : Nat) : f_X0_tell j (nI w) 8 (pR j V R) = some (turnsV (R (sp w 0)) (R 1), pR j V R) := by
  unfold f_X0_tell
  rw [if_neg (by decide), if_neg (by decide), if_neg (by decide), if_neg (by decide), if_neg (by decide), if_neg (by decide), if_neg (by decide), if_neg (by decide), inb8 hw, itt, cl8 hw, pR_1, pR_t, k_turnsOf]
  rfl
theorem op_of {VC VM : VV} (h : Rel VC VM) (a b : Int32) : Both (f_X3_of a b VC) (f_X4_of a b VM) := by
  obtain ⟨n, R, hw, hf, hz, eC, eM, -, -⟩ := h.at
  have h8 := hw.1
  unfold f_X3_of f_X4_of
  rcases rng a n (by omega) with ha | ⟨w, hwn, rfl⟩
  · rw [← eC, ← eM]
    simp only [m_isW_n VM h8 hw.2.1 ha, k_has_n 0 VC hw.2.1 ha, k_find0, m_find0, Option.bind_some, if_true, if_false, one0, eq_self, bV, itt]
    refine ⟨_, _, _, rfl, rfl, ?_⟩
    rw [eC, eM]; exact h.find 0
  · have hw8 : w < 8 := by omega
    rw [← eC, ← eM]
    simp only [m_isW_y VM h8 hw.2.1 hwn, k_hasT 0 VC hw.2.1 hwn h8, Option.bind_some, if_true, if_false, one0, eq_self, bV, itt]
    rcases rng b 9 (by decide) with hb | ⟨k, hk, rfl⟩
    · rw [m_inN b 0 8 (by decide) (by decide) _ (hb.imp id (lt_of_le_succ (N := 8) (by decide)))]
      by_cases h0 : b < 0
      · rw [if_pos h0]
        simp only [k_find0, m_find0, Option.bind_some, if_true, if_false, one0, eq_self, bV, itt]
        refine ⟨_, _, _, rfl, rfl, ?_⟩
        rw [eC, eM]; exact h.find 0
      · rw [if_neg h0, if_neg (show ¬ b ≤ (8 : Int32) from Int32.not_le.mpr (lt_of_le_succ (N := 8) (by decide) (hb.resolve_left h0)))]
        simp only [k_find0, m_find0, Option.bind_some, if_true, if_false, one0, eq_self, bV, itt]
        refine ⟨_, _, _, rfl, rfl, ?_⟩
        rw [eC, eM]; exact h.find 0
    · rw [m_inY (nI k) 0 8 (by decide) (by decide) _ (nI_pos (by omega)) (show ¬ nI 8 < nI k from nI_nlt (by omega) (by decide)), if_neg (nI_pos (by omega)), if_pos (show nI k ≤ (8 : Int32) from nI_le (b := 8) (by omega) (by decide))]
      simp only [Option.bind_some, if_true, if_false, one0, eq_self, bV, itt]
      by_cases h6 : k < 7
      · rw [if_neg (show ¬ (6 : Int32) < nI k from nI_nlt (a := 6) (by omega) (by decide)), m_its VM R hw8 h6, tell_at VC R hw8 0 k h6]
        simp only [Option.bind_some, if_true, if_false, one0, eq_self, bV, itt]
        refine ⟨_, _, _, rfl, rfl, ?_⟩
        rw [eC, eM]; exact h
      · rw [if_pos (show (6 : Int32) < nI k from nI_lt (a := 6) (by omega) (by omega))]
        rcases (show k = 7 ∨ k = 8 by omega) with rfl | rfl
        · rw [if_pos (show nI 7 = (7 : Int32) from rfl), m_stepsOf VM R hw8, show nI 7 = (7 : Int32) from rfl, tell_7 VC R hw8 0]
          simp only [Option.bind_some, if_true, if_false, one0, eq_self, bV, itt]
          refine ⟨_, _, _, rfl, rfl, ?_⟩
          rw [eC, eM]; exact h
        · rw [if_neg (show ¬ nI 8 = (7 : Int32) by decide), m_turnsOf VM R hw8, show nI 8 = (8 : Int32) from rfl, tell_8 VC R hw8 0]
          simp only [Option.bind_some, if_true, if_false, one0, eq_self, bV, itt]
          refine ⟨_, _, _, rfl, rfl, ?_⟩
          rw [eC, eM]; exact h
theorem op_turn {VC VM : VV} (h : Rel VC VM) (a b : Int32) : Both (f_X3_turn a b VC) (f_X4_turn a b VM) := by
  obtain ⟨n, R, hw, hf, hz, eC, eM, -, -⟩ := h.at
  have h8 := hw.1
  unfold f_X3_turn f_X4_turn
  rw [← eC, ← eM]
  rcases rng a n (by omega) with ha | ⟨w, hwn, rfl⟩
  · simp only [m_isW_n VM h8 hw.2.1 ha, k_has_n 0 VC hw.2.1 ha, k_find0, m_find0, Option.bind_some, if_true, if_false, one0, eq_self, bV, itt]
    refine ⟨_, _, _, rfl, rfl, ?_⟩
    rw [eC, eM]; exact h.find 0
  · have hw8 : w < 8 := by omega
    simp only [m_isW_y VM h8 hw.2.1 hwn, k_hasT 0 VC hw.2.1 hwn h8, Option.bind_some, if_true, if_false, one0, eq_self, bV, itt]
    rcases rng b 6 (by decide) with hb | ⟨k, hk, rfl⟩
    · simp only [m_isKind_n hb, k_isKind_n hb, k_find0, m_find0, Option.bind_some, if_true, if_false, one0, eq_self, bV, itt]
      refine ⟨_, _, _, rfl, rfl, ?_⟩
      rw [eC, eM]; exact h.find 0
    · simp only [m_isKind_y hk, k_isKind_y hk, Option.bind_some, if_true, if_false, one0, eq_self, bV, itt, inb8 hw8, cl8 hw8, pR_1, pR_w1, m_spot0, m_becomes VM R (sp_lt hw8 (show 0 < 7 by decide))]
      refine ⟨_, _, _, rfl, rfl, ?_⟩
      exact h.row (hw.kind hk) (hf.up (sp2 w 0)) (hz.up (sp_lt hw8 (by decide)))
theorem op_free {VC VM : VV} (h : Rel VC VM) (a : Int32) : Both (f_X3_free a VC) (f_X4_free a VM) := by
  obtain ⟨n, R, hw, hf, hz, eC, eM, -, -⟩ := h.at
  have h8 := hw.1
  unfold f_X3_free f_X4_free
  rw [← eC, ← eM]
  rcases rng a n (by omega) with ha | ⟨w, hwn, rfl⟩
  · simp only [m_isW_n VM h8 hw.2.1 ha, k_has_n 0 VC hw.2.1 ha, k_find0, m_find0, Option.bind_some, if_true, if_false, one0, eq_self, bV, itt]
    refine ⟨_, _, _, rfl, rfl, ?_⟩
    rw [eC, eM]; exact h.find 0
  · have hw8 : w < 8 := by omega
    simp only [m_isW_y VM h8 hw.2.1 hwn, k_hasT 0 VC hw.2.1 hwn h8, m_isFree VM R hw8, k_isFree 0 VC R hw8, Option.bind_some, if_true, if_false, one0, eq_self, bV, itt]
    by_cases hp : R (sp w 5) = -1
    · rw [if_pos hp, if_neg (by decide)]
      simp only [k_find4, m_find4, Option.bind_some, if_true, if_false, one0, eq_self, bV, itt]
      refine ⟨_, _, _, rfl, rfl, ?_⟩
      rw [eC, eM]; exact h.find 4
    · rw [if_neg hp, if_pos rfl]
      simp only [inb8 hw8, cl8 hw8, pR_6, k_rel 0 VC hw hwn hp, m_lets VM hw hwn hp, Option.bind_some, if_true, if_false, one0, eq_self, bV, itt]
      refine ⟨_, _, _, rfl, rfl, ?_⟩
      exact h.row hw.rel ((((hf.up (sp2 _ 5)).up (sp2 _ 6)).up (sp2 _ 5)).up (sp2 _ 6)) (hz.rel hw hwn hp)
theorem op_now {VC VM : VV} (h : Rel VC VM) (a : Int32) : Both (f_X3_now a VC) (f_X4_now a VM) := by
  obtain ⟨n, R, hw, hf, hz, eC, eM, -, -⟩ := h.at
  have hR : Rel (pR 0 VC R) (mR VM R) := by rw [eC, eM]; exact h
  unfold f_X3_now f_X4_now
  rw [← eC, ← eM]
  simp only [k_isFoggy, m_isFoggy, k_keptSet 0 VC hw.1 hw.2.1, m_thoseKept VM hw.1 hw.2.1, k_gladSet 0 VC hw.1 hw.2.1, m_thoseGlad VM hw.1 hw.2.1, inb1, inb2, inb3, tn1, tn2, tn3, mR_1, pR_t, pR_f, pR_v, k_find0, m_find0, Option.bind_some, if_true, if_false, one0, eq_self, bV, itt]
  by_cases h0 : a = 0
  · rw [if_pos h0, if_pos h0]; exact ⟨_, _, _, rfl, rfl, hR⟩
  · rw [if_neg h0, if_neg h0]
    by_cases h1 : a = 1
    · rw [if_pos h1, if_pos h1]; exact ⟨_, _, _, rfl, rfl, hR⟩
    · rw [if_neg h1, if_neg h1]
      by_cases h2 : a = 2
      · rw [if_pos h2, if_pos h2]
        by_cases g : fogB R = true
        · rw [if_pos g, if_neg (by decide), if_neg (by decide)]; exact ⟨_, _, _, rfl, rfl, hR⟩
        · rw [if_neg g, if_pos rfl, if_pos rfl]; exact ⟨_, _, _, rfl, rfl, hR⟩
      · rw [if_neg h2, if_neg h2]
        by_cases h3 : a = 3
        · rw [if_pos h3, if_pos h3]; exact ⟨_, _, _, rfl, rfl, hR⟩
        · rw [if_neg h3, if_neg h3]
          by_cases h4 : a = 4
          · rw [if_pos h4, if_pos h4]; exact ⟨_, _, _, rfl, rfl, hR⟩
          · rw [if_neg h4, if_neg h4]
            by_cases h5 : a = 5
            · rw [if_pos h5, if_pos h5]; exact ⟨_, _, _, rfl, rfl, hR⟩
            · rw [if_neg h5, if_neg h5]; exact ⟨_, _, _, rfl, rfl, hR.find 0⟩
