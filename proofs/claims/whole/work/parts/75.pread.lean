/-! ===== PURE: calls, thirteenth: read ===== -/
theorem go_loop {n k w z : Nat} {W W' : VV} (hk : k < 4) (hz : z ≤ 40) (hw : w < n) (hn : n ≤ 8) (c1 : W.1 (29 + 2 * k) 1 = nI z) (m1 : W'.1 8 k = nI z) (hG : ∀ i, i < 40 → W.2 (29 + 2 * k + 1) i = W'.2 9 (40 * k + i)) : ∀ d i fuel (Q : Row) (T : Nat), i + d = z → d < fuel → Wf n T Q → Z60 Q → ∃ b Q1 Q2, (b = 0 ∨ b = 1) ∧ f_X3_trialGoesBy_L2 k fuel (nI w) (nI i) (pR 1 W Q) = some (b, pR 1 W Q1) ∧ f_X4_isBook_L2 fuel (nI k) (nI w) (nI i) (mR W' Q) = some (b, mR W' Q2) ∧ Z60 Q1 ∧ Z60 Q2 := by
  intro d
  induction d with
  | zero =>
    intro i fuel Q T hi hf hQ hzQ
    obtain ⟨f, rfl⟩ : ∃ f, fuel = f + 1 := ⟨fuel - 1, by omega⟩
    have g1 : nI z ≤ nI i := nI_le (by omega) (by omega)
    rw [f_X3_trialGoesBy_L2, f_X4_isBook_L2, inb4 hk, itt, cl_nI (show k < 2 ^ 31 by omega), pR_far (c := 29 + 2 * k) _ _ (by decide) (by omega), mR_ne (c := 8) _ _ (by decide), c1, m1, if_pos g1, if_pos g1]
    exact ⟨1, Q, Q, Or.inr rfl, rfl, rfl, hzQ, hzQ⟩
  | succ d ih =>
    intro i fuel Q T hi hf hQ hzQ
    obtain ⟨f, rfl⟩ : ∃ f, fuel = f + 1 := ⟨fuel - 1, by omega⟩
    have hw8 : w < 8 := by omega
    have hi40 : i < 40 := by omega
    have g1 : ¬ nI z ≤ nI i := nI_ge (by omega) (by omega)
    rw [f_X3_trialGoesBy_L2, f_X4_isBook_L2, inb4 hk, itt, cl_nI (show k < 2 ^ 31 by omega), pR_far (c := 29 + 2 * k) _ _ (by decide) (by omega), mR_ne (c := 8) _ _ (by decide), c1, m1, if_neg g1, if_neg g1, inb40 hi40, itt, inb8 hw8, itt, (i160 hk hi40).1, itt, (i160 hk hi40).2, cl_nI (show i < 2 ^ 31 by omega), cl_nI (show w < 2 ^ 31 by omega), pR_2', pR_2, mR_2, hG i hi40, m_its1 W' Q hw8, Option.bind_some]
    dsimp only
    by_cases g : lg_cmp (W'.2 9 (40 * k + i)) (Q (sp w 1)).toInt64 = 0
    · rw [if_pos g, if_pos g, k_passHour 1 _ hQ, m_goesHour _ hQ, Option.bind_some, Option.bind_some, nI_succ']
      exact ih (i + 1) f _ (T + 1) (by omega) (by omega) hQ.hour (hzQ.hour hQ)
    · rw [if_neg g, if_neg g]
      exact ⟨0, Q, Q, Or.inl rfl, rfl, rfl, hzQ, hzQ⟩
def pairR (w p : Nat) (R : Row) : Row := upd (upd R (sp w 0) (nI (p / 4))) (sp w 3) (nI (p % 4))
theorem pair_ok {n w p : Nat} {R : Row} (h : Wf n 99999 R) (hz : Z60 R) (hw : w < 8) (hp : p < 24) : Wf n 99999 (pairR w p R) ∧ Z60 (pairR w p R) :=
  ⟨(h.kind (by omega)).head (by omega), (hz.up (sp_lt hw (by decide))).up (sp_lt hw (by decide))⟩
theorem m_pair {w p : Nat} (hw : w < 8) (hp : p < 24) (k : Nat) (V : VV) (R : Row) (c : Int32) (f : Nat) : f_X4_read_L27 (f + 1) (nI k) (nI w) c (nI p) (mR V R) = ((f_X4_isBook (nI k) (nI w) (mR V (pairR w p R))).bind fun q11 => (if q11.1 = 0 then ((f_X4_takesBack (c + 0) q11.2).bind fun q13 => (f_X4_read_L27 f (nI k) (nI w) (q13.1) (nI (p + 1)) q13.2)) else ((f_X4_takesBack (c + 1) q11.2).bind fun q14 => (f_X4_read_L27 f (nI k) (nI w) (q14.1) (nI (p + 1)) q14.2)))) := by
  have e1 : nI p / 4 = nI (p / 4) := pk_div (d := 4) (by omega) (by decide) (by decide)
  have e2 : nI p - nI (p / 4) * 4 = nI (p % 4) := by
    have := pk_rem (a := p) (d := 4) (by omega) (by decide) (by decide)
    rw [pk_div (by omega) (by decide) (by decide)] at this
    exact this
  rw [f_X4_read_L27, if_neg (show ¬ (24 : Int32) ≤ nI p from nI_ge (b := 24) hp (by decide)), m_spot0, Option.bind_some]
  dsimp only
  rw [isp hw (by decide), itt, csp hw (by decide), mR_w, bV_e, m_spot3, Option.bind_some]
  dsimp only
  rw [isp hw (by decide), itt, csp hw (by decide), mR_w, bV_e, e1, e2, nI_succ']
  rfl
theorem read_loop {n k w z : Nat} {VC VM : VV} {R : Row} (hk : k < 4) (hz : z ≤ 40) (hwn : w < n) (hW : Wf n 99999 R) (hzR : Z60 R) (c1 : VC.1 (29 + 2 * k) 1 = nI z) (m1 : VM.1 8 k = nI z) (hG : ∀ i, i < 40 → VC.2 (29 + 2 * k + 1) i = VM.2 9 (40 * k + i)) : ∀ e kk fc fm (c : Int32) (Q : Row), kk + e = 6 → e < fc → 4 * e < fm → Z60 Q → ∃ r Q', Z60 Q' ∧ f_X3_read_L35 k fc (nI w) c (nI kk) (pR 1 (pR 0 VC R) Q) = some (r, pR 1 (pR 0 VC R) Q') ∧ f_X4_read_L27 fm (nI k) (nI w) c (nI (4 * kk)) (mR (sR VM 4 R) R) = some (r, mR (sR VM 4 R) R) := by
  have hw8 : w < 8 := by have := hW.1; omega
  intro e
  induction e with
  | zero =>
    intro kk fc fm c Q hkk hfc hfm hzQ
    obtain ⟨f, rfl⟩ : ∃ f, fc = f + 1 := ⟨fc - 1, by omega⟩
    obtain ⟨g, rfl⟩ : ∃ g, fm = g + 1 := ⟨fm - 1, by omega⟩
    have : kk = 6 := by omega
    subst this
    rw [f_X3_read_L35, f_X4_read_L27, if_pos (show (6 : Int32) ≤ nI 6 by decide), if_pos (show (24 : Int32) ≤ nI (4 * 6) by decide)]
    exact ⟨c, Q, hzQ, rfl, rfl⟩
  | succ e ih =>
    intro kk fc fm c Q hkk hfc hfm hzQ
    obtain ⟨f, rfl⟩ : ∃ f, fc = f + 1 := ⟨fc - 1, by omega⟩
    rw [f_X3_read_L35, if_neg (show ¬ (6 : Int32) ≤ nI kk from nI_ge (b := 6) (by omega) (by decide))]
    have inner : ∀ r d fd fm (c : Int32) (Q : Row), d + r = 4 → r < fd → r + 4 * e < fm → Z60 Q → ∃ r' Q', Z60 Q' ∧ f_X3_read_L45 k (f_X3_read_L35 k f) fd (nI w) c (nI kk) (nI d) (pR 1 (pR 0 VC R) Q) = some (r', pR 1 (pR 0 VC R) Q') ∧ f_X4_read_L27 fm (nI k) (nI w) c (nI (4 * kk + d)) (mR (sR VM 4 R) R) = some (r', mR (sR VM 4 R) R) := by
      intro r
      induction r with
      | zero =>
        intro d fd fm c Q hd hfd hfm hzQ
        obtain ⟨f', rfl⟩ : ∃ f', fd = f' + 1 := ⟨fd - 1, by omega⟩
        have : d = 4 := by omega
        subst this
        rw [f_X3_read_L45, if_pos (show (4 : Int32) ≤ nI 4 by decide), nI_succ', show 4 * kk + 4 = 4 * (kk + 1) by omega]
        exact ih (kk + 1) f fm c Q (by omega) (by omega) (by omega) hzQ
      | succ r ihr =>
        intro d fd fm c Q hd hfd hfm hzQ
        obtain ⟨f', rfl⟩ : ∃ f', fd = f' + 1 := ⟨fd - 1, by omega⟩
        obtain ⟨g, rfl⟩ : ∃ g, fm = g + 1 := ⟨fm - 1, by omega⟩
        have hp : 4 * kk + d < 24 := by omega
        obtain ⟨p1, p2⟩ := pair_ok (p := 4 * kk + d) hW hzR hw8 hp
        obtain ⟨b, Q1, Q2, hb, x1, x2, z1, z2⟩ := go_loop (W := pR 0 VC R) (W' := sR VM 4 R) hk hz hwn hW.1 (by rw [pR_far _ _ (by decide) (by omega)]; exact c1) (by rw [sR_ne _ _ (by decide)]; exact m1) hG z 0 200 (pairR w (4 * kk + d) R) 99999 (by omega) (by omega) p1 p2
        have e3 : pairR w (4 * kk + d) R = upd (upd R (sp w 0) (nI kk)) (sp w 3) (nI d) := by
          unfold pairR
          rw [show (4 * kk + d) / 4 = kk by omega, show (4 * kk + d) % 4 = d by omega]
        have x1' : f_X3_trialGoesBy k (nI w) (pR 1 (pR 0 VC R) (upd (upd R (sp w 0) (nI kk)) (sp w 3) (nI d))) = some (b, pR 1 (pR 0 VC R) Q1) := by
          rw [← e3]; exact x1
        have x2' : f_X4_isBook (nI k) (nI w) (mR (sR VM 4 R) (pairR w (4 * kk + d) R)) = some (b, mR (sR VM 4 R) Q2) := x2
        rw [f_X3_read_L45, if_neg (show ¬ (4 : Int32) ≤ nI d from nI_ge (b := 4) (by omega) (by decide)), k_again VC R hzR hzQ, Option.bind_some, inb8 hw8, itt, cl_nI (show w < 2 ^ 31 by omega), pR_w1, bV_e, itt, pR_w4, bV_e, x1', Option.bind_some, m_pair hw8 hp, x2', Option.bind_some]
        dsimp only
        rcases hb with rfl | rfl
        · rw [if_pos (show (0 : Int32) = 0 from rfl), if_pos (show (0 : Int32) = 0 from rfl), m_takesR VM R Q2 _ hzR z2, Option.bind_some]
          dsimp only
          rw [Int32.add_zero, nI_succ']
          exact ihr (d + 1) f' g c Q1 (by omega) (by omega) (by omega) z1
        · rw [if_neg (show ¬ (1 : Int32) = 0 by decide), if_neg (show ¬ (1 : Int32) = 0 by decide), m_takesR VM R Q2 _ hzR z2, Option.bind_some]
          dsimp only
          rw [nI_succ']
          exact ihr (d + 1) f' g (c + 1) Q1 (by omega) (by omega) (by omega) z1
    exact inner 4 0 200 fm c Q (by omega) (by omega) (by omega) hzQ
theorem op_read {VC VM : VV} (h : Rel VC VM) (a b : Int32) : Both (f_X3_read a b VC) (f_X4_read a b VM) := by
  unfold f_X3_read f_X4_read
  rcases wrong_both h a b with ⟨e1, e2⟩ | ⟨e1, e2⟩ | ⟨e1, e2, k, w, n, rfl, hk, rfl, hwn, hw⟩
  · rw [e1, e2, Option.bind_some, Option.bind_some]
    dsimp only
    rw [if_neg (show ¬ (-1000000001 : Int32) = 0 by decide)]
    exact wrongF h (by decide) k_find0 m_find0 _
  · rw [e1, e2, Option.bind_some, Option.bind_some]
    dsimp only
    rw [if_neg (show ¬ (-1000000006 : Int32) = 0 by decide)]
    exact wrongF h (by decide) k_find5 m_find5 _
  · obtain ⟨n', R, hw', hf, hz6, eC, eM, -, e3⟩ := h.at
    rw [e3] at hw
    have hR : Rel (pR 0 VC R) (mR VM R) := by rw [eC, eM]; exact h
    obtain ⟨s1, s2, s3, ⟨z, hz, s4⟩, s5⟩ := h.2.2.2.2.2 k hk
    have zt : Z60 (rowC 1 VC) := h.2.1.2.2.2.1
    obtain ⟨r, Q', zQ, x1, x2⟩ := read_loop (VC := VC) (VM := VM) hk hz hwn hw hz6 (s3.trans s4) s4 s5 6 0 200 200 0 (rowC 1 VC) (by omega) (by omega) (by omega) zt
    rw [eC, pR_row] at x1
    have y2 := m_laysR VM R hz6 h.2.1.2.2.1
    rw [eM] at y2
    rw [e1, e2, Option.bind_some, Option.bind_some]
    dsimp only
    rw [k_sheet_y hk, Option.bind_some]
    dsimp only
    rw [if_neg (nI_pos (show k < 2 ^ 31 by omega)), if_pos (show (0 : Int32) = 0 from rfl), if_pos (show (0 : Int32) = 0 from rfl), cl_nI (show k < 2 ^ 31 by omega), y2, Option.bind_some]
    have x3 := hR.both zQ hz6
    rw [eC] at x3
    exact ⟨_, _, _, x1, x2, x3⟩
