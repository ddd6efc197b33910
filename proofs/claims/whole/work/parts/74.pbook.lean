/-! ===== PURE: calls, twelfth: book and read ===== -/
theorem wrong_both {VC VM : VV} (h : Rel VC VM) (a b : Int32) : (f_X3_sheetAndWalkerFinding a b VC = some (-1000000001, VC) ∧ f_X4_wrongBook a b VM = some (-1000000001, VM)) ∨ (f_X3_sheetAndWalkerFinding a b VC = some (-1000000006, VC) ∧ f_X4_wrongBook a b VM = some (-1000000006, VM)) ∨ (f_X3_sheetAndWalkerFinding a b VC = some (0, VC) ∧ f_X4_wrongBook a b VM = some (0, VM) ∧ ∃ k w n, a = nI k ∧ k < 4 ∧ b = nI w ∧ w < n ∧ Wf n 99999 (VM.1 1)) := by
  unfold f_X3_sheetAndWalkerFinding f_X4_wrongBook f_X4_wrongSheet
  rcases rng a 4 (by decide) with ha | ⟨k, hk, rfl⟩
  · left
    rw [k_sheet_n ha, m_one_n ha, Option.bind_some, Option.bind_some]
    dsimp only
    rw [if_pos (show (-1 : Int32) < 0 by decide), if_pos (show (0 : Int32) = 0 from rfl), Option.bind_some]
    dsimp only
    rw [if_neg (show ¬ (-1000000001 : Int32) = 0 by decide)]
    exact ⟨rfl, rfl⟩
  · obtain ⟨s1, s2, s3, ⟨z, hz, s4⟩, s5⟩ := h.2.2.2.2.2 k hk
    rw [k_sheet_y hk, m_one_y hk, Option.bind_some, Option.bind_some]
    dsimp only
    rw [if_neg (nI_pos (show k < 2 ^ 31 by omega)), if_neg (show ¬ (1 : Int32) = 0 by decide), cl_nI (show k < 2 ^ 31 by omega), inb4 hk, itt, k_miss, s1, Option.bind_some]
    dsimp only
    by_cases g : VM.1 7 k = 0
    · right; left
      rw [if_pos g, if_pos g, if_neg (show ¬ (1 : Int32) = 0 by decide), Option.bind_some]
      dsimp only
      rw [if_neg (show ¬ (-1000000006 : Int32) = 0 by decide)]
      exact ⟨rfl, rfl⟩
    · rw [if_neg g, if_neg g, if_pos (show (0 : Int32) = 0 from rfl), Option.bind_some]
      dsimp only
      rw [if_pos (show (0 : Int32) = 0 from rfl)]
      obtain ⟨n, R, hw, hf, hz6, eC, eM, -, e1⟩ := h.at
      rcases rng b n (by have := hw.1; omega) with hb | ⟨w, hwn, rfl⟩
      · left
        have x1 := k_has_n 0 VC hw.2.1 hb
        have x2 := m_isW_n VM hw.1 hw.2.1 hb
        rw [eC] at x1
        rw [eM] at x2
        rw [x1, x2, Option.bind_some, Option.bind_some]
        dsimp only
        rw [if_pos (show (0 : Int32) = 0 from rfl), if_pos (show (0 : Int32) = 0 from rfl)]
        exact ⟨rfl, rfl⟩
      · right; right
        have x1 := k_hasT 0 VC hw.2.1 hwn hw.1
        have x2 := m_isW_y VM hw.1 hw.2.1 hwn
        rw [eC] at x1
        rw [eM] at x2
        rw [x1, x2, Option.bind_some, Option.bind_some]
        dsimp only
        rw [if_neg (show ¬ (1 : Int32) = 0 by decide), if_neg (show ¬ (1 : Int32) = 0 by decide)]
        exact ⟨rfl, rfl, k, w, n, rfl, hk, rfl, hwn, by rw [e1]; exact hw⟩
theorem wrongF {VC VM : VV} (h : Rel VC VM) {a r : Int32} {i : Nat} (hr : ¬ r = 0) (hC : ∀ V, f_X3_finding r V = some (r, fdC i V)) (hM : ∀ V, f_X4_finds r V = some (r, fdM i V)) (G : Int32 × VV → Option (Int32 × VV)) : Both ((f_X3_sheetOf a VC).bind fun q2 => (if q2.1 < 0 then (if r = 0 then ((f_X3_finding r q2.2).bind fun q5 => some (q5.1, q5.2)) else ((f_X3_finding r q2.2).bind fun q4 => some (q4.1, q4.2))) else (if r = 0 then G q2 else ((f_X3_finding r q2.2).bind fun q7 => some (q7.1, q7.2))))) ((f_X4_finds r VM).bind fun q14 => some (q14.1, q14.2)) := by
  rw [hM, Option.bind_some]
  rcases rng a 4 (by decide) with ha | ⟨k, hk, rfl⟩
  · rw [k_sheet_n ha, Option.bind_some]
    dsimp only
    rw [if_pos (show (-1 : Int32) < 0 by decide), if_neg hr, hC, Option.bind_some]
    exact fd_both h _ i
  · rw [k_sheet_y hk, Option.bind_some]
    dsimp only
    rw [if_neg (nI_pos (show k < 2 ^ 31 by omega)), if_neg hr, hC, Option.bind_some]
    exact fd_both h _ i
theorem two_far {VC : VV} {R Q : Row} {c : Nat} (hc : 24 ≤ c) : (pR 1 (pR 0 VC R) Q).1 c = VC.1 c := by
  rw [pR_far _ _ (by decide) hc, pR_far _ _ (by decide) hc]
theorem two_farM {VM : VV} {R Q : Row} {c : Nat} (h1 : c ≠ 1) (h4 : c ≠ 4) : (mR (sR VM 4 R) Q).1 c = VM.1 c := by
  rw [mR_ne _ _ h1, sR_ne _ _ h4]
theorem wJ_pp (VC : VV) (R Q : Row) (c i : Nat) (v : Int64) : wJ (pR 1 (pR 0 VC R) Q) c i v = pR 1 (pR 0 (wJ VC c i v) R) Q := rfl
theorem wJ_p (VC : VV) (R : Row) (c i : Nat) (v : Int64) : wJ (pR 0 VC R) c i v = pR 0 (wJ VC c i v) R := rfl
theorem wJ_mm (VM : VV) (R Q : Row) (c i : Nat) (v : Int64) : wJ (mR (sR VM 4 R) Q) c i v = mR (sR (wJ VM c i v) 4 R) Q := rfl
theorem wJ_m (VM : VV) (R : Row) (c i : Nat) (v : Int64) : wJ (mR VM R) c i v = mR (wJ VM c i v) R := rfl
theorem book_loop {n k w z : Nat} {R : Row} (hk : k < 4) (hz : z ≤ 40) (hw : w < n) (hn : n ≤ 8) (hzR : Z60 R) : ∀ d i fuel (VC VM : VV) (Q : Row) (T : Nat), i + d = z → d < fuel → Rel (pR 0 VC R) (mR VM R) → VC.1 (29 + 2 * k) 0 = VM.1 7 k → VC.1 (29 + 2 * k) 1 = nI z → VM.1 8 k = nI z → Wf n T Q → Z60 Q → ∃ VC' VM' Q', f_X3_book_L43 k fuel (nI w) (nI i) (pR 1 (pR 0 VC R) Q) = some (nI z, pR 1 (pR 0 VC' R) Q') ∧ f_X4_book_L24 fuel (nI k) (nI w) (nI i) (mR (sR VM 4 R) Q) = some (nI z, mR (sR VM' 4 R) R) ∧ Rel (pR 0 VC' R) (mR VM' R) ∧ Z60 Q' := by
  intro d
  induction d with
  | zero =>
    intro i fuel VC VM Q T hi hf hR b1 c1 m1 hQ hzQ
    obtain ⟨f, rfl⟩ : ∃ f, fuel = f + 1 := ⟨fuel - 1, by omega⟩
    have g1 : nI z ≤ nI i := nI_le (by omega) (by omega)
    rw [f_X3_book_L43, f_X4_book_L24, inb4 hk, itt, itt, cl_nI (show k < 2 ^ 31 by omega), two_far (by omega), two_farM (by decide) (by decide), c1, m1, if_pos g1, if_pos g1, m_takesR VM R Q _ hzR hzQ, Option.bind_some]
    exact ⟨VC, VM, Q, rfl, rfl, hR, hzQ⟩
  | succ d ih =>
    intro i fuel VC VM Q T hi hf hR b1 c1 m1 hQ hzQ
    obtain ⟨f, rfl⟩ : ∃ f, fuel = f + 1 := ⟨fuel - 1, by omega⟩
    have hw8 : w < 8 := by omega
    have hi40 : i < 40 := by omega
    have g1 : ¬ nI z ≤ nI i := nI_ge (by omega) (by omega)
    rw [f_X3_book_L43, f_X4_book_L24, inb4 hk, itt, itt, itt, cl_nI (show k < 2 ^ 31 by omega), two_far (c := 29 + 2 * k) (by omega), two_farM (c := 8) (by decide) (by decide), c1, m1, if_neg g1, if_neg g1, inb8 hw8, itt, cl_nI (show w < 2 ^ 31 by omega), pR_2', k_put k hi40, two_far (c := 29 + 2 * k) (by omega), Option.bind_some, m_its1 (sR VM 4 R) Q hw8, Option.bind_some]
    dsimp only
    rw [two_farM (c := 7) (by decide) (by decide), m_narr, Option.bind_some]
    dsimp only
    rw [(i160 hk hi40).1, itt, (i160 hk hi40).2, bV_e, wJ_pp, wJ_mm, b1, k_passHour 1 _ hQ, m_goesHour _ hQ, Option.bind_some, Option.bind_some, nI_succ']
    refine ih (i + 1) f _ _ _ (T + 1) (by omega) (by omega) ?_ b1 c1 m1 hQ.hour (hzQ.hour hQ)
    rw [← wJ_p, ← wJ_m]
    exact hR.num hk hi40 _
theorem op_book {VC VM : VV} (h : Rel VC VM) (a b : Int32) : Both (f_X3_book a b VC) (f_X4_book a b VM) := by
  unfold f_X3_book f_X4_book
  rcases wrong_both h a b with ⟨e1, e2⟩ | ⟨e1, e2⟩ | ⟨e1, e2, k, w, n, rfl, hk, rfl, hwn, hw⟩
  · rw [e1, e2, Option.bind_some, Option.bind_some]
    dsimp only
    rw [if_neg (show ¬ (-1000000001 : Int32) = 0 by decide)]
    exact wrongF h (by decide) k_find0 m_find0 _
  · rw [e1, e2, Option.bind_some, Option.bind_some]
    dsimp only
    rw [if_neg (show ¬ (-1000000006 : Int32) = 0 by decide)]
    exact wrongF h (by decide) k_find5 m_find5 _
  · obtain ⟨n', R, hw', hf, hz6, eC, eM, -, e3⟩ := h.at
    rw [e3] at hw
    have hR : Rel (pR 0 VC R) (mR VM R) := by rw [eC, eM]; exact h
    obtain ⟨s1, s2, s3, ⟨z, hz, s4⟩, s5⟩ := h.2.2.2.2.2 k hk
    rw [e1, e2, Option.bind_some, Option.bind_some]
    dsimp only
    rw [k_sheet_y hk, Option.bind_some]
    dsimp only
    rw [if_neg (nI_pos (show k < 2 ^ 31 by omega)), if_pos (show (0 : Int32) = 0 from rfl), if_pos (show (0 : Int32) = 0 from rfl), cl_nI (show k < 2 ^ 31 by omega)]
    obtain ⟨VC', VM', Q', x1, x2, x3, x4⟩ := book_loop (n := n) (w := w) hk hz hwn hw.1 hz6 z 0 200 VC VM R 99999 (by omega) (by omega) hR s1 (s3.trans s4) s4 hw hz6
    have y1 := k_trialR VC R hz6 h.2.1.2.2.2.1
    have y2 := m_laysR VM R hz6 h.2.1.2.2.1
    rw [eC] at y1
    rw [eM] at y2
    rw [y1, y2, Option.bind_some, Option.bind_some]
    rw [eC] at x1
    exact ⟨_, _, _, x1, x2, x3.both x4 hz6⟩
