/-! ===== PURE: items of the text: one more walker ===== -/
theorem m_part_n {B : Nat → Nat} {L : Nat} {V0 : VV} {st : Nat} {R : Row} {V : VV} (h : GM B L V0 st R 0 V) {s : Nat} (hs : s < 13) {c : Int64} (hc : c = lN (wcN s)) (a m : Int32) (hw : ¬ wIs B L s st) : f_X4_partItem c a m V = some V := by
  obtain ⟨x, hx, hxw⟩ := m_word h.1 h.2.2.2
  unfold f_X4_partItem
  rw [hx, Option.bind_some]
  dsimp only
  rw [hc, if_neg (mt (hxw s hs).mp hw)]
theorem m_part_b {B : Nat → Nat} {L : Nat} {V0 : VV} {st : Nat} {R : Row} {V : VV} (h : GM B L V0 st R 0 V) {s : Nat} (hs : s < 13) {c : Int64} (hc : c = lN (wcN s)) {p : Nat} (hp : p < 60) {m : Int32} {most : Nat} (em : m = nI most) (hmost : most ≤ 999) (hw : wIs B L s st) (ok : ¬ nOk B L (tkX B L st) 0 most) : ∃ V', f_X4_partItem c (nI p) m V = some V' ∧ GM B L V0 (tkX B L st) R 1 V' := by
  obtain ⟨x, hx, hxw⟩ := m_word h.1 h.2.2.2
  obtain ⟨V1, y1, h1, -⟩ := h.must1
  obtain ⟨V2, y2, h2⟩ := h1.num_n (a := 0) (b := m) (lo := 0) (hi := most) rfl em (by decide) hmost ok
  refine ⟨V2, ?_, h2⟩
  unfold f_X4_partItem
  rw [hx, Option.bind_some]
  dsimp only
  rw [hc, if_pos ((hxw s hs).mpr hw), y1, Option.bind_some, y2, Option.bind_some, h2.2.2.2, if_neg (show ¬ (1 : Int32) = 0 by decide), inb60 hp, itt, itt, wI_same, bV_e]
theorem m_part_y {B : Nat → Nat} {L : Nat} {V0 : VV} {st : Nat} {R : Row} {V : VV} (h : GM B L V0 st R 0 V) {s : Nat} (hs : s < 13) {c : Int64} (hc : c = lN (wcN s)) {p : Nat} (hp : p < 60) {m : Int32} {most : Nat} (em : m = nI most) (hmost : most ≤ 999) (hw : wIs B L s st) (ok : nOk B L (tkX B L st) 0 most) : ∃ V', f_X4_partItem c (nI p) m V = some V' ∧ GM B L V0 (tkX B L (tkX B L st)) (upd R p (nI (tkN B L (tkX B L st)))) 0 V' := by
  obtain ⟨x, hx, hxw⟩ := m_word h.1 h.2.2.2
  obtain ⟨V1, y1, h1, -⟩ := h.must1
  obtain ⟨V2, y2, h2, e2⟩ := h1.num_y (a := 0) (b := m) (lo := 0) (hi := most) rfl em (by decide) hmost ok
  refine ⟨_, ?_, h2.row _⟩
  unfold f_X4_partItem
  rw [hx, Option.bind_some]
  dsimp only
  rw [hc, if_pos ((hxw s hs).mpr hw), y1, Option.bind_some, y2, Option.bind_some, h2.2.2.2, if_pos (show (0 : Int32) = 0 from rfl), inb60 hp, itt, cl_nI (show p < 2 ^ 31 by omega), e2, h2.wr, bV_e]
theorem m_partW {B : Nat → Nat} {L : Nat} {V0 : VV} {st : Nat} {R : Row} {V : VV} (h : GM B L V0 st R 1 V) {c : Int64} (hc : ¬ lg_cmp 0 c = 0) (a m : Int32) : f_X4_partItem c a m V = some V := by
  unfold f_X4_partItem
  rw [h.bad_word, Option.bind_some]
  dsimp only
  rw [if_neg hc]
theorem tail_sim {B : Nat → Nat} {L : Nat} {VC0 VM0 : VV} {st n w : Nat} {R : Row} {VC VM : VV} (h : PG B L VC0 VM0 st n R VC VM) (hw8 : w < 8) : Sim B L VC0 VM0 st ((f_X2_takeWord 11 VC).bind fun q13 => (if q13.1 = 0 then some (1, q13.2) else ((f_X2_takeNumber 0 15 q13.2).bind fun q15 => (if q15.1 = 0 then some (0, q15.2) else (if inb (nI w) 8 = true then (bV (wI q15.2 (8 * 1 + 5) (Int32.toNatClampNeg (nI w)) (q15.2.1 25 6)) fun V18 => some (1, V18)) else none))))) (f_X4_partItem 8896691 (nI (sp w 4)) 15 VM) := by
  obtain ⟨hC, hM, hw, hfog, hz⟩ := h
  have hst := hC.1.2.2.1
  have x0 := tkX_le (B := B) hst
  have hp : sp w 4 < 60 := sp_lt hw8 (by decide)
  by_cases hi : wIs B L 11 st
  · obtain ⟨VC1, x1, hC1, -⟩ := hC.word_y (s := 11) (by decide) hi
    rw [x1, Option.bind_some]
    dsimp only
    rw [if_neg (show ¬ (1 : Int32) = 0 by decide)]
    by_cases ok : nOk B L (tkX B L st) 0 15
    · obtain ⟨VC2, x2, hC2, e2⟩ := hC1.num_y (a := 0) (b := 15) (lo := 0) (hi := 15) rfl rfl (by decide) ok
      obtain ⟨VM2, y2, hM2⟩ := m_part_y hM (s := 11) (by decide) (c := 8896691) rfl hp (m := 15) (most := 15) rfl (by decide) hi ok
      rw [x2, Option.bind_some, y2]
      dsimp only
      rw [if_neg (show ¬ (1 : Int32) = 0 by decide), inb8 hw8, itt, cl8 hw8, e2, hC2.w5, bV_e]
      have x3 := tkX_le (B := B) x0.2
      exact Or.inr ⟨_, n, _, _, _, rfl, rfl, ⟨hC2.row _, hM2, hw.hope, hfog.up (sp2 w 4), hz.up hp⟩, by omega⟩
    · obtain ⟨VM2, y2, hM2⟩ := m_part_b hM (s := 11) (by decide) (c := 8896691) rfl hp (m := 15) (most := 15) rfl (by decide) hi ok
      rw [hC1.num_n (a := 0) (b := 15) (lo := 0) (hi := 15) rfl rfl (by decide) (by decide) ok, Option.bind_some, y2]
      dsimp only
      rw [if_pos (show (0 : Int32) = 0 from rfl)]
      exact Or.inl ⟨_, _, _, rfl, rfl, R, R, hC1, hM2, hz, hz⟩
  · rw [hC.word_n (s := 11) (by decide) hi, Option.bind_some, m_part_n hM (s := 11) (by decide) (c := 8896691) rfl _ _ hi]
    dsimp only
    rw [if_pos (show (0 : Int32) = 0 from rfl)]
    exact Or.inr ⟨st, n, R, _, _, rfl, rfl, ⟨hC, hM, hw, hfog, hz⟩, Nat.le_refl _⟩
theorem walker_sim {B : Nat → Nat} {L : Nat} {VC0 VM0 : VV} {st n k : Nat} {R : Row} {VC VM : VV} (h : PG B L VC0 VM0 st n R VC VM) (hk : k < 6) (hl : st < L) : Sim B L VC0 VM0 (st + 1) (f_X2_takeWalker 1 (nI k) VC) (f_X4_walkerItem (nI k) VM) := by
  obtain ⟨hC, hM, hw, hfog, hz⟩ := h
  have hst := hC.1.2.2.1
  have x0 := tkX_le (B := B) hst
  have x0' := tkX_lt (B := B) hl
  have h8 := hw.1
  unfold f_X2_takeWalker f_X4_walkerItem f_X0_hasRoom
  rw [inb0, itt, tn0, hM.2.1, hC.rn, hw.2.1]
  by_cases h9 : n = 8
  · have g1 : (8 : Int32) ≤ nI n := by rw [h9]; decide
    obtain ⟨VM1, y1, hM1⟩ := hM.must0
    rw [if_pos g1, if_pos g1, Option.bind_some, y1, Option.bind_some, hM1.bad_word, Option.bind_some]
    dsimp only
    rw [if_pos (show (0 : Int32) = 0 from rfl), if_neg (show ¬ lg_cmp 0 52 = 0 by decide), hM1.bad_must, Option.bind_some, hM1.bad_num, Option.bind_some, hM1.2.2.2, if_neg (show ¬ (1 : Int32) = 0 by decide)]
    exact Or.inl ⟨_, _, _, rfl, rfl, R, R, hC, hM1, hz, hz⟩
  · have hn8 : n < 8 := by omega
    have g1 : ¬ (8 : Int32) ≤ nI n := nI_ge (b := 8) hn8 (by decide)
    obtain ⟨VC1, x1, hC1, -⟩ := hC.look
    obtain ⟨VM1, y1, hM1, -⟩ := hM.must1
    obtain ⟨x, hx, hxw⟩ := m_word hM1.1 hM1.2.2.2
    have w9 : lg_cmp x 52 = 0 ↔ wIs B L 9 (tkX B L st) := hxw 9 (by decide)
    rw [if_neg g1, if_neg g1, Option.bind_some, y1, Option.bind_some, hx, Option.bind_some]
    dsimp only
    rw [if_neg (show ¬ (1 : Int32) = 0 by decide), x1, Option.bind_some]
    by_cases ha : wIs B L 9 (tkX B L st)
    · obtain ⟨VC2, x2, hC2, -⟩ := hC1.word_y (s := 9) (by decide) ha
      obtain ⟨VM2, y2, hM2, -⟩ := hM1.must1
      have z1 := tkX_le (B := B) x0.2
      rw [x2, Option.bind_some, if_pos (w9.mpr ha), y2, Option.bind_some]
      dsimp only
      rw [if_neg (show ¬ (1 : Int32) = 0 by decide)]
      by_cases ok : nOk B L (tkX B L (tkX B L st)) 0 35
      · obtain ⟨VC3, x3, hC3, e3⟩ := hC2.num_y (a := 0) (b := 35) (lo := 0) (hi := 35) rfl rfl (by decide) ok
        obtain ⟨VM3, y3, hM3, f3⟩ := hM2.num_y (a := 0) (b := 35) (lo := 0) (hi := 35) rfl rfl (by decide) (by decide) ok
        have z2 := tkX_le (B := B) z1.2
        have hc36 : tkN B L (tkX B L (tkX B L st)) < 36 := by have := ok.2.2; omega
        have hW4 := hw.come hn8 hk hc36
        have hF4 : FogOk (comeR n (nI k) (nI (tkN B L (tkX B L (tkX B L st)))) R) := hfog.come
        have hZ4 : Z60 (comeR n (nI k) (nI (tkN B L (tkX B L (tkX B L st)))) R) := hz.come hn8
        have xa := k_come 1 VC3 hn8 hw.2.1 (nI k) (nI (tkN B L (tkX B L (tkX B L st))))
        rw [hC3.self] at xa
        have ya := m_adds VM3 hn8 hw.2.1 (nI k) (nI (tkN B L (tkX B L (tkX B L st))))
        rw [hM3.self] at ya
        have xb := k_hasT 1 VC3 hW4.2.1 (Nat.lt_succ_self n) hW4.1
        have hC4 := hC3.row (comeR n (nI k) (nI (tkN B L (tkX B L (tkX B L st)))) R)
        have hM4 := hM3.row (comeR n (nI k) (nI (tkN B L (tkX B L (tkX B L st)))) R)
        rw [x3, Option.bind_some, y3, Option.bind_some]
        dsimp only
        rw [if_neg (show ¬ (1 : Int32) = 0 by decide), hM3.2.2.2, if_pos (show (0 : Int32) = 0 from rfl), e3, f3, xa, Option.bind_some, ya, Option.bind_some]
        dsimp only
        rw [xb, Option.bind_some, m_spot3, Option.bind_some]
        dsimp only
        rw [if_neg (show ¬ (1 : Int32) = 0 by decide)]
        have hp : sp n 3 < 60 := sp_lt hn8 (by decide)
        by_cases hh : wIs B L 10 (tkX B L (tkX B L (tkX B L st)))
        · obtain ⟨VC5, x5, hC5, -⟩ := hC4.word_y (s := 10) (by decide) hh
          have z3 := tkX_le (B := B) z2.2
          rw [x5, Option.bind_some]
          dsimp only
          rw [if_neg (show ¬ (1 : Int32) = 0 by decide)]
          by_cases ok2 : nOk B L (tkX B L (tkX B L (tkX B L (tkX B L st)))) 0 3
          · obtain ⟨VC6, x6, hC6, e6⟩ := hC5.num_y (a := 0) (b := 3) (lo := 0) (hi := 3) rfl rfl (by decide) ok2
            obtain ⟨VM6, y6, hM6⟩ := m_part_y hM4 (s := 10) (by decide) (c := 8758896071) rfl hp (m := 3) (most := 3) rfl (by decide) hh ok2
            have z4 := tkX_le (B := B) z3.2
            have hd4 : tkN B L (tkX B L (tkX B L (tkX B L (tkX B L st)))) < 4 := by have := ok2.2.2; omega
            rw [x6, Option.bind_some, y6, Option.bind_some]
            dsimp only
            rw [if_neg (show ¬ (1 : Int32) = 0 by decide), inb8 hn8, itt, cl8 hn8, e6, hC6.w4, bV_e, m_spot4, Option.bind_some]
            dsimp only
            rw [opt_bid]
            have key := tail_sim (w := n) ⟨hC6.row _, hM6, hW4.head hd4, hF4.up (sp2 n 3), hZ4.up hp⟩ hn8
            rw [inb8 hn8, cl8 hn8] at key
            exact key.le (by omega)
          · obtain ⟨VM6, y6, hM6⟩ := m_part_b hM4 (s := 10) (by decide) (c := 8758896071) rfl hp (m := 3) (most := 3) rfl (by decide) hh ok2
            rw [hC5.num_n (a := 0) (b := 3) (lo := 0) (hi := 3) rfl rfl (by decide) (by decide) ok2, Option.bind_some, y6, Option.bind_some]
            dsimp only
            rw [if_pos (show (0 : Int32) = 0 from rfl), m_spot4, Option.bind_some]
            dsimp only
            rw [m_partW hM6 (by decide), Option.bind_some]
            exact Or.inl ⟨_, _, _, rfl, rfl, _, _, hC5, hM6, hZ4, hZ4⟩
        · rw [hC4.word_n (s := 10) (by decide) hh, Option.bind_some, m_part_n hM4 (s := 10) (by decide) (c := 8758896071) rfl _ _ hh, Option.bind_some]
          dsimp only
          rw [if_pos (show (0 : Int32) = 0 from rfl), m_spot4, Option.bind_some]
          dsimp only
          rw [opt_bid]
          have key := tail_sim (w := n) ⟨hC4, hM4, hW4, hF4, hZ4⟩ hn8
          exact key.le (by omega)
      · obtain ⟨VM3, y3, hM3⟩ := hM2.num_n (a := 0) (b := 35) (lo := 0) (hi := 35) rfl rfl (by decide) (by decide) ok
        rw [hC2.num_n (a := 0) (b := 35) (lo := 0) (hi := 35) rfl rfl (by decide) (by decide) ok, Option.bind_some, y3, Option.bind_some]
        dsimp only
        rw [if_pos (show (0 : Int32) = 0 from rfl), hM3.2.2.2, if_neg (show ¬ (1 : Int32) = 0 by decide)]
        exact Or.inl ⟨_, _, _, rfl, rfl, R, R, hC2, hM3, hz, hz⟩
    · obtain ⟨VM2, y2, hM2⟩ := hM1.must0
      rw [hC1.word_n (s := 9) (by decide) ha, Option.bind_some, if_neg (mt w9.mp ha), y2, Option.bind_some, hM2.bad_num, Option.bind_some, hM2.2.2.2, if_neg (show ¬ (1 : Int32) = 0 by decide)]
      dsimp only
      rw [if_pos (show (0 : Int32) = 0 from rfl)]
      exact Or.inl ⟨_, _, _, rfl, rfl, R, R, hC1, hM2, hz, hz⟩
