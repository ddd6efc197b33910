/-! ===== PURE: calls, eleventh: lays ===== -/
theorem in15 (v : Int64) : (15 < v) ↔ (16 ≤ v) := by
  rw [Int64.lt_iff_toInt_lt, Int64.le_iff_toInt_le, show (15 : Int64).toInt = 15 from rfl, show (16 : Int64).toInt = 16 from rfl]
  omega
theorem m_in15 (v : Int64) (V : VV) : f_X4_in v 0 15 V = some (if v < 0 ∨ 16 ≤ v then 0 else 1, V) := by
  unfold f_X4_in
  by_cases h1 : v < 0
  · rw [if_pos ((cmp_lt _ _).mpr h1), if_pos (Or.inl h1)]
  · rw [if_neg (fun z => h1 ((cmp_lt _ _).mp z))]
    by_cases h2 : 16 ≤ v
    · rw [if_pos ((cmp_gt _ _).mpr ((in15 v).mpr h2)), if_pos (Or.inr h2)]
    · rw [if_neg (fun z => h2 ((in15 v).mp ((cmp_gt _ _).mp z))), if_neg (fun z => z.elim h1 h2)]
theorem lays_loop {VC VM : VV} {n k z : Nat} (hk : k < 4) (hz : z ≤ 40) (hn : n ≤ 8) (c1 : VC.1 (29 + 2 * k) 1 = nI z) (m1 : VM.1 8 k = nI z) (hG : ∀ i, i < 40 → VC.2 (29 + 2 * k + 1) i = VM.2 9 (40 * k + i)) : ∀ d w fuel (R : Row) (c : Int32), w + d = min z n → d < fuel → Wf n 99999 R → FogOk R → Z60 R → ∃ R' c', f_X3_lays_L36 k fuel c (nI w) (pR 0 VC R) = some (c', pR 0 VC R') ∧ f_X4_lays_L21 fuel (nI k) c (nI w) (mR VM R) = some (c', mR VM R') ∧ Wf n 99999 R' ∧ FogOk R' ∧ Z60 R' := by
  intro d
  induction d with
  | zero =>
    intro w fuel R c hw hf h1 h2 h3
    obtain ⟨f, rfl⟩ : ∃ f, fuel = f + 1 := ⟨fuel - 1, by omega⟩
    rw [f_X3_lays_L36, f_X4_lays_L21, inb4 hk, itt, pR_far _ _ (by decide) (by omega), c1, cl_nI (show k < 2 ^ 31 by omega), mR_ne _ _ (show 8 ≠ 1 by decide), m1, pR_n, mR_1, inb0, itt, tn0, h1.2.1]
    by_cases q : z ≤ w
    · rw [if_pos (nI_le q (by omega)), if_pos (nI_le q (by omega))]
      exact ⟨R, c, rfl, rfl, h1, h2, h3⟩
    · have g1 : ¬ nI z ≤ nI w := nI_ge (by omega) (by omega)
      have g2 : nI n ≤ nI w := nI_le (by omega) (by omega)
      rw [if_neg g1, if_neg g1, if_pos g2, if_pos g2]
      exact ⟨R, c, rfl, rfl, h1, h2, h3⟩
  | succ d ih =>
    intro w fuel R c hw hf h1 h2 h3
    obtain ⟨f, rfl⟩ : ∃ f, fuel = f + 1 := ⟨fuel - 1, by omega⟩
    have hwz : w < z := by omega
    have hwn : w < n := by omega
    have hw8 : w < 8 := by omega
    have hw40 : w < 40 := by omega
    rw [f_X3_lays_L36, f_X4_lays_L21, inb4 hk, itt, pR_far _ _ (by decide) (by omega), c1, cl_nI (show k < 2 ^ 31 by omega), mR_ne _ _ (show 8 ≠ 1 by decide), m1, pR_n, mR_1, inb0, itt, tn0, h1.2.1, if_neg (nI_ge hwz (by omega)), if_neg (nI_ge hwz (by omega)), if_neg (nI_ge hwn (by omega)), if_neg (nI_ge hwn (by omega)), inb40 hw40, itt, (i160 hk hw40).1, itt, (i160 hk hw40).2, cl_nI (show w < 2 ^ 31 by omega), pR_2, mR_2, hG w hw40, m_in15, Option.bind_some]
    dsimp only
    rw [m_spot4, Option.bind_some]
    dsimp only
    by_cases b1 : VM.2 9 (40 * k + w) < 0
    · rw [if_pos (Or.inl b1), if_pos ((cmp_lt _ _).mpr b1), if_pos (show (0 : Int32) = 0 from rfl), m_its4 VM R hw8, Option.bind_some]
      dsimp only
      rw [isp hw8 (by decide), itt, csp hw8 (by decide), mR_w, upd_self, bV_e, if_pos (show (0 : Int32) = 0 from rfl), Int32.add_zero, nI_succ']
      exact ih (w + 1) f R c (by omega) (by omega) h1 h2 h3
    · rw [if_neg (fun z => b1 ((cmp_lt _ _).mp z))]
      by_cases b2 : 16 ≤ VM.2 9 (40 * k + w)
      · rw [if_pos (Or.inr b2), if_pos ((lg_cmp_ge _ _).mpr b2), if_pos (show (0 : Int32) = 0 from rfl), m_its4 VM R hw8, Option.bind_some]
        dsimp only
        rw [isp hw8 (by decide), itt, csp hw8 (by decide), mR_w, upd_self, bV_e, if_pos (show (0 : Int32) = 0 from rfl), Int32.add_zero, nI_succ']
        exact ih (w + 1) f R c (by omega) (by omega) h1 h2 h3
      · have hb : ¬ (VM.2 9 (40 * k + w) < 0 ∨ 16 ≤ VM.2 9 (40 * k + w)) := fun z => z.elim b1 b2
        rw [if_neg hb, if_neg (fun z => b2 ((lg_cmp_ge _ _).mp z)), if_neg (show ¬ (1 : Int32) = 0 by decide), inb8 hw8, itt, isp hw8 (by decide), itt, itt, csp hw8 (by decide), mR_2, mR_w, pR_w5, bV_e, bV_e, if_neg (show ¬ (1 : Int32) = 0 by decide), nI_succ']
        exact ih (w + 1) f _ (c + 1) (by omega) (by omega) h1.hope (h2.up (sp2 w 4)) (h3.up (sp_lt hw8 (by decide)))
theorem op_lays {VC VM : VV} (h : Rel VC VM) (a : Int32) : Both (f_X3_lays a VC) (f_X4_lays a VM) := by
  unfold f_X3_lays f_X4_lays f_X4_wrongSheet
  rcases rng a 4 (by decide) with ha | ⟨k, hk, rfl⟩
  · rw [k_sheet_n ha, m_one_n ha]
    simp only [Option.bind_some, if_true, eq_self]
    rw [if_pos (show (-1 : Int32) < 0 by decide), if_neg (show ¬ (-1000000001 : Int32) = 0 by decide), k_find0, m_find0]
    exact fd_both h _ 0
  · obtain ⟨s1, s2, s3, ⟨z, hz, s4⟩, s5⟩ := h.2.2.2.2.2 k hk
    rw [k_sheet_y hk, m_one_y hk, Option.bind_some, Option.bind_some]
    dsimp only
    rw [if_neg (nI_pos (show k < 2 ^ 31 by omega)), if_neg (show ¬ (1 : Int32) = 0 by decide), cl_nI (show k < 2 ^ 31 by omega), inb4 hk, itt, k_miss, s1, Option.bind_some]
    dsimp only
    by_cases g : VM.1 7 k = 0
    · rw [if_pos g, if_pos g, if_neg (show ¬ (1 : Int32) = 0 by decide), Option.bind_some]
      dsimp only
      rw [if_neg (show ¬ (-1000000006 : Int32) = 0 by decide), k_find5, m_find5]
      exact fd_both h _ 5
    · rw [if_neg g, if_neg g, if_pos (show (0 : Int32) = 0 from rfl), Option.bind_some]
      dsimp only
      rw [if_pos (show (0 : Int32) = 0 from rfl)]
      obtain ⟨n, R, hw, hf, hz6, eC, eM, -, -⟩ := h.at
      obtain ⟨R', c', e1, e2, r1, r2, r3⟩ := lays_loop (VC := VC) (VM := VM) (n := n) hk hz hw.1 (s3.trans s4) s4 s5 (min z n) 0 200 R 0 (by omega) (by omega) hw hf hz6
      rw [eC] at e1
      rw [eM] at e2
      exact ⟨c', _, _, e1, e2, h.row r1 r2 r3⟩
