/-! ===== PURE: calls, the last: moor ===== -/
theorem Rel.fin {VC VM VC' VM' : VV} (h : Rel VC VM) {n : Nat} (a1 : rowC 0 VC' = VM'.1 1) (a2 : Wf n 99999 (VM'.1 1)) (a3 : FogOk (VM'.1 1)) (a4 : Z60 (VM'.1 1)) (zt : Z60 (rowC 1 VC')) (hC : ∀ c, 16 ≤ c → c ≠ 25 → VC'.1 c = VC.1 c) (hC2 : VC'.2 = VC.2) (t1 : VC'.1 25 0 = 0) (m2 : VM'.2 = VM.2) (z3 : Z60 (VM'.1 3)) (hM : ∀ c, 2 ≤ c → c ≠ 3 → VM'.1 c = VM.1 c) (m5 : VM'.1 0 5 = VM.1 0 5) (m9 : VM'.1 0 9 = 0) : Rel VC' VM' := by
  obtain ⟨-, ⟨z1, -, z3', z4, z5⟩, ⟨k1, k2⟩, ⟨-, -, t3, t4⟩, f, s⟩ := h
  have r2 : rowC 2 VC' = rowC 2 VC := by
    funext p
    unfold rowC
    rw [hC (8 * 2) (by decide) (by decide), hC (8 * 2 + 1 + (p - 4) % 7) (by omega) (by omega)]
  refine ⟨⟨n, a1, a2, a3, a4⟩, ⟨by rw [hM 2 (by decide) (by decide)]; exact z1, z3, by rw [hM 4 (by decide) (by decide)]; exact z3', zt, by rw [r2]; exact z5⟩, ⟨by rw [m5, hC 24 (by decide) (by decide)]; exact k1, by rw [m5, r2, hM 2 (by decide) (by decide)]; exact k2⟩, ⟨by rw [t1, m9], ⟨0, by decide, m9⟩, by rw [hC 26 (by decide) (by decide), hM 6 (by decide) (by decide)]; exact t3, by rw [hM 6 (by decide) (by decide)]; exact t4⟩, ?_, fun k hk => ?_⟩
  · show VC'.1 28 = VM'.1 5
    rw [hC 28 (by decide) (by decide), hM 5 (by decide) (by decide)]; exact f
  · rw [hC (29 + 2 * k) (by omega) (by omega), hM 7 (by decide) (by decide), hM 8 (by decide) (by decide), hC2, m2]; exact s k hk
theorem op_moor {VC VM : VV} (h : Rel VC VM) : Both (f_X3_moor VC) (f_X4_moor VM) := by
  obtain ⟨n, R, hw, hfog, hz, eC, eM, eR, e1⟩ := h.at
  obtain ⟨t1, ⟨L, hL, t2⟩, t3, t4⟩ := h.2.2.2.1
  have z3 : Z60 (VM.1 3) := h.2.1.2.1
  have zt : Z60 (rowC 1 VC) := h.2.1.2.2.2.1
  obtain ⟨B, hB⟩ : ∃ B : Nat → Nat, ∀ k, B k < 256 ∧ VM.1 6 k = nI (B k) := by
    refine ⟨fun k => (VM.1 6 k).toNatClampNeg, fun k => ?_⟩
    obtain ⟨b, hb, eb⟩ := t4 k
    show (VM.1 6 k).toNatClampNeg < 256 ∧ VM.1 6 k = nI (VM.1 6 k).toNatClampNeg
    rw [eb, cl_nI (by omega)]
    exact ⟨hb, rfl⟩
  have hb : ∀ k, B k < 256 := fun k => (hB k).1
  have hBM : ∀ k, VM.1 6 k = nI (B k) := fun k => (hB k).2
  have hBC : ∀ k, VC.1 26 k = nI (B k) := fun k => by rw [t3]; exact hBM k
  have hLC : VC.1 25 0 = nI L := by rw [t1]; exact t2
  have y1 := k_trialR VC R hz zt
  rw [eC] at y1
  -- the class begins
  have c25 : (pR 1 VC R).1 25 = VC.1 25 := pR_1o _ _ (by decide)
  have a0 : (wI (pR 1 VC R) 25 4 0).1 25 0 = nI L := by rw [wI_eq, upd_ne (by decide), c25]; exact hLC
  have a4 : (wI (pR 1 VC R) 25 4 0).1 25 4 = nI 0 := by rw [wI_eq, upd_eq]; rfl
  have aB : ∀ k, (wI (pR 1 VC R) 25 4 0).1 26 k = nI (B k) := fun k => by rw [wI_ne (by decide), pR_1o _ _ (by decide)]; exact hBC k
  have look := k_look a0 hL aB hb (Nat.zero_le L) a4
  have ht := tkS_le (B := B) (Nat.zero_le L)
  have hGC : GC B L VC (tkS B L 0) R (tC (wI (pR 1 VC R) 25 4 0) (nI (tkT B L (tkS B L 0))) (nI (tkS B L 0)) (nI (tkE B L (tkS B L 0))) (tkV B L (tkS B L 0) ((wI (pR 1 VC R) 25 4 0).1 25 5)) ((wI (pR 1 VC R) 25 4 0).1 25 6)) := by
    refine ⟨⟨hL, hb, ht.2, by rw [tC_0]; exact a0, fun k => by rw [tC_26]; exact aB k, tC_3 _ _ _ _ _ _, tC_4 _ _ _ _ _ _, tC_2 _ _ _ _ _ _, fun q => ?_⟩, ?_, ?_⟩
    · rw [tC_5]; unfold tkV; rw [if_pos q]
    · rw [rowC_tC, rowC_far _ (by decide) (by decide), rowC_pR]
    · have hF : FrC VC (wI (pR 1 VC R) 25 4 0) := by
        refine ⟨rfl, fun c h1 h2 => ?_, ?_⟩
        · rw [wI_ne h2, pR_1o _ _ h1]
        · rw [wI_eq, upd_ne (by decide), c25]
      exact hF.tC _ _ _ _ _
  -- the reference begins
  have y2 := m_saves VM (by rw [e1]; exact hz) z3
  rw [e1] at y2
  have s0 : ∀ k, (sR VM 3 R).1 0 k = VM.1 0 k := fun k => by rw [sR_ne _ _ (by decide)]
  have b9 : (wI (wI (sR VM 3 R) 0 13 0) 0 11 0).1 0 9 = nI L := by rw [wI_eq, upd_ne (by decide), wI_eq, upd_ne (by decide), s0]; exact t2
  have b11 : (wI (wI (sR VM 3 R) 0 13 0) 0 11 0).1 0 11 = nI 0 := by rw [wI_eq, upd_eq]; rfl
  have bB : ∀ k, (wI (wI (sR VM 3 R) 0 13 0) 0 11 0).1 6 k = nI (B k) := fun k => by rw [wI_ne (by decide), wI_ne (by decide), sR_ne _ _ (by decide)]; exact hBM k
  have tok := m_token b9 hL bB hb (Nat.zero_le L) b11
  have hGM : GM B L (sR VM 3 R) (tkS B L 0) R 0 (tM (wI (wI (sR VM 3 R) 0 13 0) 0 11 0) (nI (tkS B L 0)) (nI (tkE B L (tkS B L 0))) ((wI (wI (sR VM 3 R) 0 13 0) 0 11 0).1 0 12) ((wI (wI (sR VM 3 R) 0 13 0) 0 11 0).1 0 13)) := by
    refine ⟨⟨hL, hb, ht.2, by rw [tM_lo _ _ _ _ _ (by decide)]; exact b9, fun k => by rw [tM_6]; exact bB k, tM_10 _ _ _ _ _, tM_11 _ _ _ _ _⟩, ?_, ?_, ?_⟩
    · rw [tM_o _ _ _ _ _ (by decide), wI_ne (by decide), wI_ne (by decide), sR_ne _ _ (by decide)]; exact e1
    · exact FrM.tM (FrM.wr (FrM.wr ⟨rfl, fun _ _ => rfl, fun _ _ => rfl⟩ (by decide) _) (by decide) _) _ _ _ _
    · rw [tM_13, wI_eq, upd_ne (by decide), wI_eq, upd_eq]
  obtain ⟨r, VC', VM', x1, x2, hD⟩ := tell_sim (R0 := R) (sR_eq VM 3 R) hz 200 200 1 (tkS B L 0) n R _ _ (by omega) (by omega) (by omega) (by omega) ⟨hGC, hGM, hw, hfog, hz⟩
  obtain ⟨⟨d1, d2, d3⟩, d4, d5, d6, d7, d8, d9⟩ := hD
  have x1' : f_X2_tellItems 1 (pR 1 VC R) = some (r, VC') := by
    unfold f_X2_tellItems
    rw [bV_e, look, Option.bind_some]
    exact x1
  have x2' : f_X4_moor VM = some (r, VM') := by
    unfold f_X4_moor
    rw [y2, Option.bind_some, bV_e, bV_e, tok, Option.bind_some]
    exact x2
  have zm3 : Z60 (VM'.1 3) := by rw [d5 3 (by decide), sR_eq]; exact hz
  have hM' : ∀ c, 2 ≤ c → c ≠ 3 → VM'.1 c = VM.1 c := fun c h1 h2 => by rw [d5 c h1, sR_ne _ _ h2]
  have m5 : VM'.1 0 5 = VM.1 0 5 := by rw [d6 5 (by decide), s0]
  unfold f_X3_moor
  rw [y1, Option.bind_some, x1', Option.bind_some, x2']
  dsimp only
  rw [bV_e]
  have r0 : rowC 0 (wI VC' 25 0 0) = R := by
    rw [rowC_far _ (by decide) (by decide), ← eR]
    funext p
    unfold rowC
    rw [d2 (8 * 0) (Or.inl (by decide)) (by decide), d2 (8 * 0 + 1 + (p - 4) % 7) (Or.inl (by omega)) (by omega)]
  have r1 : rowC 1 (wI VC' 25 0 0) = rowC 1 VC' := rowC_far _ (by decide) (by decide)
  have w0 : (wI VC' 25 0 0).1 25 0 = 0 := by rw [wI_eq, upd_eq]
  have hC' : ∀ c, 16 ≤ c → c ≠ 25 → (wI VC' 25 0 0).1 c = VC.1 c := fun c h1 h2 => by rw [wI_ne h2]; exact d2 c (Or.inr h1) h2
  rcases d9 with ⟨g1, g2, n', g3, g4⟩ | ⟨g1, g2⟩
  · rw [if_neg g1, k_takeFrom (show 1 ≠ 0 by decide) _ (by rw [r1]; exact d8) (by rw [r0]; exact hz), Option.bind_some, r1]
    refine ⟨_, _, _, rfl, rfl, h.fin (n := n') ?_ g3 g4 (by rw [← g2]; exact d8) ?_ ?_ d1 ?_ d4 zm3 hM' m5 d7⟩
    · rw [rowC_pR]; exact g2
    · rw [rowC_pR_ne (by decide), r1]; exact d8
    · intro c h1 h2
      have : (pR 0 (wI VC' 25 0 0) (rowC 1 VC')).1 c = (wI VC' 25 0 0).1 c := by
        funext k
        simp only [pR]
        rw [if_neg (by omega), if_neg (by omega)]
      rw [this]
      exact hC' c h1 h2
    · rw [pR_far _ _ (by decide) (by decide)]; exact w0
  · rw [if_pos g1]
    refine ⟨_, _, _, rfl, rfl, h.fin (n := n) ?_ (by rw [g2]; exact hw) (by rw [g2]; exact hfog) (by rw [g2]; exact hz) ?_ hC' d1 w0 d4 zm3 hM' m5 d7⟩
    · rw [r0, g2]
    · rw [r1]; exact d8
