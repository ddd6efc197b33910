/-! ===== PURE: calls, sixth: the fullest ===== -/
theorem pc_lt : ∀ d n m, m < 2 ^ n → pcF d m ≤ n := by
  intro d
  induction d with
  | zero => intro n m _; exact Nat.zero_le n
  | succ d ih =>
    intro n m h
    show m % 2 + pcF d (m / 2) ≤ n
    cases n with
    | zero =>
      have : m = 0 := by simpa using h
      subst this
      rw [show 0 / 2 = 0 from rfl, pc_0]
      exact Nat.le_refl 0
    | succ n =>
      rw [Nat.pow_succ] at h
      have := ih n (m / 2) (by omega)
      omega
theorem cnt_le (P : Nat → Bool) {n : Nat} (h8 : n ≤ 8) : cntR P n ≤ n := by
  obtain ⟨m, h1, h2⟩ := bits_lt P n h8
  have hm : m < 2 ^ 24 := Nat.lt_of_lt_of_le h1 (Nat.pow_le_pow_right (by decide) (by omega))
  unfold cntR
  rw [h2, cl_nI (by omega)]
  exact pc_lt 24 n m h1
def fullR (c : Nat → Nat) : Nat → Int32 × Int32
  | 0 => (0, -1)
  | k + 1 => if nI (c k) ≤ (fullR c k).2 then fullR c k else (nI k, nI (c k))
theorem full_0 {c : Nat → Nat} {n x : Nat} (hn : n < 2 ^ 31) (hc : ∀ y, c y ≤ n) (h : nI n ≤ (fullR c x).2) : ∀ d, fullR c (x + d) = fullR c x := by
  intro d
  induction d with
  | zero => rfl
  | succ d ih =>
    show (if nI (c (x + d)) ≤ (fullR c (x + d)).2 then fullR c (x + d) else _) = _
    rw [ih, if_pos (Int32.le_trans (nI_le (hc _) hn) h)]
theorem k_full {n : Nat} (VC : VV) {R : Row} (hn8 : n ≤ 8) (hR0 : R 0 = nI n) {c a : Int32} {N h : Nat} {f : Nat → Row} {P : Row → Nat → Bool} (hP : (c = 4 ∧ P = gladB) ∨ (c ≠ 4 ∧ P = kpB)) (hh : h < 140) (hN : N < 150) (hfW : ∀ x, x < N → Wf n 99999 (f x)) (hfZ : ∀ x, x < N → Z60 (f x)) (hsup : ∀ x Q, x < N → Z60 Q → f_X3_suppose c (nI x) a (pR 1 (pR 0 VC R) Q) = some (pR 1 (pR 0 VC R) (f x))) : ∀ d x fuel Q, x + d = N → d < fuel → Z60 Q → ∃ Q', Z60 Q' ∧ f_X3_fullestChoice_L9 fuel c (nI N) (nI h) a (fullR (fun y => cntR (P (onR n h (f y))) n) x).1 (fullR (fun y => cntR (P (onR n h (f y))) n) x).2 (nI x) (pR 1 (pR 0 VC R) Q) = some ((fullR (fun y => cntR (P (onR n h (f y))) n) N).1, pR 1 (pR 0 VC R) Q') := by
  intro d
  induction d with
  | zero =>
    intro x fuel Q h1 h2 hq
    obtain ⟨g, rfl⟩ : ∃ g, fuel = g + 1 := ⟨fuel - 1, by omega⟩
    have : x = N := by omega
    subst this
    rw [f_X3_fullestChoice_L9, if_pos (Int32.le_refl _)]
    exact ⟨Q, hq, rfl⟩
  | succ d ih =>
    intro x fuel Q h1 h2 hq
    obtain ⟨g, rfl⟩ : ∃ g, fuel = g + 1 := ⟨fuel - 1, by omega⟩
    have hx : x < N := by omega
    have en : (pR 1 (pR 0 VC R) Q).1 (8 * 0) 3 = nI n := by rw [pR_i0 (show 0 ≠ 1 by decide), pR_n, hR0]
    rw [f_X3_fullestChoice_L9, if_neg (nI_ge hx (by omega)), en]
    by_cases ge : nI n ≤ (fullR (fun y => cntR (P (onR n h (f y))) n) x).2
    · rw [if_pos ge]
      have := full_0 (c := fun y => cntR (P (onR n h (f y))) n) (n := n) (by omega) (fun y => cnt_le _ hn8) ge (N - x)
      rw [show x + (N - x) = N by omega] at this
      rw [this]
      exact ⟨Q, hq, rfl⟩
    · rw [if_neg ge, hsup x Q hx hq, Option.bind_some, k_pass 1 _ (hfW x hx) (hfZ x hx) (show h < 199 by omega), Option.bind_some]
      obtain ⟨o1, o2⟩ := on_ok (hfW x hx) (hfZ x hx) h
      have ih' := ih (x + 1) g (onR n h (f x)) (by omega) (by omega) o2
      have hS : fullR (fun y => cntR (P (onR n h (f y))) n) (x + 1) = if nI (cntR (P (onR n h (f x))) n) ≤ (fullR (fun y => cntR (P (onR n h (f y))) n) x).2 then fullR (fun y => cntR (P (onR n h (f y))) n) x else (nI x, nI (cntR (P (onR n h (f x))) n)) := rfl
      rw [hS] at ih'
      rcases hP with ⟨hc, rfl⟩ | ⟨hc, rfl⟩
      · rw [if_pos hc, k_gladSet 1 _ o1.1 o1.2.1, Option.bind_some, (cnt_ok _ hn8 _).1, Option.bind_some]
        dsimp only
        by_cases gg : nI (cntR (gladB (onR n h (f x))) n) ≤ (fullR (fun y => cntR (gladB (onR n h (f y))) n) x).2
        · rw [if_pos gg, nI_succ']
          rw [if_pos gg] at ih'
          exact ih'
        · rw [if_neg gg, nI_succ']
          rw [if_neg gg] at ih'
          exact ih'
      · rw [if_neg hc, k_keptSet 1 _ o1.1 o1.2.1, Option.bind_some, (cnt_ok _ hn8 _).1, Option.bind_some]
        dsimp only
        by_cases gg : nI (cntR (kpB (onR n h (f x))) n) ≤ (fullR (fun y => cntR (kpB (onR n h (f y))) n) x).2
        · rw [if_pos gg, nI_succ']
          rw [if_pos gg] at ih'
          exact ih'
        · rw [if_neg gg, nI_succ']
          rw [if_neg gg] at ih'
          exact ih'
theorem m_full {n : Nat} (VM : VV) {R : Row} (hz : Z60 R) (hn8 : n ≤ 8) {N h : Nat} {f : Nat → Row} {P : Row → Nat → Bool} {G : VV → Option (Int32 × VV)} (hG : ∀ W Q, Q 0 = nI n → G (mR W Q) = some (bitsR (P Q) n, mR W Q)) (hh : h < 140) (hfW : ∀ x, x < N → Wf n 99999 (f x)) (hfZ : ∀ x, x < N → Z60 (f x)) {F : Nat → Int32 → Int32 → Int32 → VV → Option (Int32 × VV)} (hF0 : ∀ fuel s b V, F (fuel + 1) s b (nI N) V = some (b, V)) (hF1 : ∀ fuel s b x W, x < N → F (fuel + 1) s b (nI x) (mR W R) = ((f_X4_hoursGo (nI h) (mR W (f x))).bind fun V11 => ((G V11).bind fun q12 => ((f_X4_ones q12.1 q12.2).bind fun q13 => ((f_X4_takesBack q13.1 q13.2).bind fun q14 => (if q14.1 ≤ s then (if q14.1 ≤ s then (F fuel s b (nI (x + 1)) q14.2) else (F fuel q14.1 b (nI (x + 1)) q14.2)) else (if q14.1 ≤ s then (F fuel s (nI x) (nI (x + 1)) q14.2) else (F fuel q14.1 (nI x) (nI (x + 1)) q14.2)))))))) : ∀ d x fuel, x + d = N → d < fuel → F fuel (fullR (fun y => cntR (P (onR n h (f y))) n) x).2 (fullR (fun y => cntR (P (onR n h (f y))) n) x).1 (nI x) (mR (sR VM 4 R) R) = some ((fullR (fun y => cntR (P (onR n h (f y))) n) N).1, mR (sR VM 4 R) R) := by
  intro d
  induction d with
  | zero =>
    intro x fuel h1 h2
    obtain ⟨g, rfl⟩ : ∃ g, fuel = g + 1 := ⟨fuel - 1, by omega⟩
    have : x = N := by omega
    subst this
    exact hF0 _ _ _ _
  | succ d ih =>
    intro x fuel h1 h2
    obtain ⟨g, rfl⟩ : ∃ g, fuel = g + 1 := ⟨fuel - 1, by omega⟩
    have hx : x < N := by omega
    obtain ⟨o1, o2⟩ := on_ok (hfW x hx) (hfZ x hx) h
    rw [hF1 g _ _ x _ hx, m_hoursGo _ (hfW x hx) (hfZ x hx) (show h < 199 by omega), Option.bind_some, hG _ _ o1.2.1, Option.bind_some]
    dsimp only
    rw [(cnt_ok _ hn8 _).2, Option.bind_some]
    dsimp only
    rw [m_takesR VM R _ _ hz o2, Option.bind_some]
    dsimp only
    have ih' := ih (x + 1) g (by omega) (by omega)
    have hS : fullR (fun y => cntR (P (onR n h (f y))) n) (x + 1) = if nI (cntR (P (onR n h (f x))) n) ≤ (fullR (fun y => cntR (P (onR n h (f y))) n) x).2 then fullR (fun y => cntR (P (onR n h (f y))) n) x else (nI x, nI (cntR (P (onR n h (f x))) n)) := rfl
    rw [hS] at ih'
    by_cases gg : nI (cntR (P (onR n h (f x))) n) ≤ (fullR (fun y => cntR (P (onR n h (f y))) n) x).2
    · rw [if_pos gg, if_pos gg]
      rw [if_pos gg] at ih'
      exact ih'
    · rw [if_neg gg, if_neg gg]
      rw [if_neg gg] at ih'
      exact ih'
theorem full_both {VC VM : VV} {n : Nat} {R : Row} (hw : Wf n 99999 R) (hz : Z60 R) (hR : Rel (pR 0 VC R) (mR VM R)) {c a : Int32} {N h : Nat} {f : Nat → Row} {P : Row → Nat → Bool} (hP : (c = 4 ∧ P = gladB) ∨ (c ≠ 4 ∧ P = kpB)) (hh : h < 140) (hN : N < 150) (hfW : ∀ x, x < N → Wf n 99999 (f x)) (hfZ : ∀ x, x < N → Z60 (f x)) (hsup : ∀ x Q, x < N → Z60 Q → f_X3_suppose c (nI x) a (pR 1 (pR 0 VC R) Q) = some (pR 1 (pR 0 VC R) (f x))) {G : VV → Option (Int32 × VV)} (hG : ∀ W Q, Q 0 = nI n → G (mR W Q) = some (bitsR (P Q) n, mR W Q)) {F : Nat → Int32 → Int32 → Int32 → VV → Option (Int32 × VV)} (hF0 : ∀ fuel s b V, F (fuel + 1) s b (nI N) V = some (b, V)) (hF1 : ∀ fuel s b x W, x < N → F (fuel + 1) s b (nI x) (mR W R) = ((f_X4_hoursGo (nI h) (mR W (f x))).bind fun V11 => ((G V11).bind fun q12 => ((f_X4_ones q12.1 q12.2).bind fun q13 => ((f_X4_takesBack q13.1 q13.2).bind fun q14 => (if q14.1 ≤ s then (if q14.1 ≤ s then (F fuel s b (nI (x + 1)) q14.2) else (F fuel q14.1 b (nI (x + 1)) q14.2)) else (if q14.1 ≤ s then (F fuel s (nI x) (nI (x + 1)) q14.2) else (F fuel q14.1 (nI x) (nI (x + 1)) q14.2)))))))) : Both ((f_X3_fullestChoice c (nI N) (nI h) a (pR 0 VC R)).bind fun q3 => some (q3.1, q3.2)) ((f_X4_laysAside (mR VM R)).bind fun V4 => F 200 (-1) 0 (nI 0) V4) := by
  have z4 : Z60 (VM.1 4) := by have := hR.2.1.2.2.1; rw [mR_ne _ _ (by decide)] at this; exact this
  have zt : Z60 (rowC 1 (pR 0 VC R)) := hR.2.1.2.2.2.1
  obtain ⟨Q1, q1, k1⟩ := k_full (n := n) VC hw.1 hw.2.1 hP hh hN hfW hfZ hsup N 0 200 (rowC 1 (pR 0 VC R)) (by omega) (by omega) zt
  rw [pR_row] at k1
  have k1 : f_X3_fullestChoice c (nI N) (nI h) a (pR 0 VC R) = _ := k1
  have k2 := m_full (n := n) VM hz hw.1 hG hh hfW hfZ hF0 hF1 N 0 200 (by omega) (by omega)
  have k2 : F 200 (-1) 0 (nI 0) (mR (sR VM 4 R) R) = _ := k2
  rw [k1, m_laysR VM R hz z4, Option.bind_some, Option.bind_some, k2]
  exact ⟨_, _, _, rfl, rfl, hR.both q1 hz⟩
theorem op_hope {VC VM : VV} (h : Rel VC VM) (a b : Int32) : Both (f_X3_hope a b VC) (f_X4_hope a b VM) := by
  obtain ⟨n, R, hw, hf, hz, eC, eM, -, -⟩ := h.at
  have hR : Rel (pR 0 VC R) (mR VM R) := by rw [eC, eM]; exact h
  have h8 := hw.1
  unfold f_X3_hope f_X4_hope
  rw [← eC, ← eM]
  rcases rng a n (by omega) with ha | ⟨w, hwn, rfl⟩
  · simp only [m_isW_n VM h8 hw.2.1 ha, k_has_n 0 VC hw.2.1 ha, k_find0, m_find0, Option.bind_some, if_true, if_false, one0, eq_self, bV, itt]
    exact fd_both hR _ 0
  · have hw8 : w < 8 := by omega
    rw [m_isW_y VM h8 hw.2.1 hwn, k_hasT 0 VC hw.2.1 hwn h8, Option.bind_some, Option.bind_some]
    dsimp only
    rw [if_neg (show ¬ (1 : Int32) = 0 by decide), if_neg (show ¬ (1 : Int32) = 0 by decide)]
    rcases rng b 61 (by decide) with hb | ⟨k, hk, rfl⟩
    · rw [m_inN b 0 60 (by decide) (by decide) _ (hb.imp id (lt_of_le_succ (N := 60) (by decide)))]
      simp only [m_find0, k_find0, Option.bind_some, if_true, if_false, one0, eq_self, bV, itt]
      by_cases h0 : b < 0
      · rw [if_pos h0]; exact fd_both hR _ 0
      · rw [if_neg h0, if_neg (show ¬ b ≤ (60 : Int32) from Int32.not_le.mpr (lt_of_le_succ (N := 60) (by decide) (hb.resolve_left h0)))]; exact fd_both hR _ 0
    · rw [m_inY (nI k) 0 60 (by decide) (by decide) _ (nI_pos (by omega)) (show ¬ nI 60 < nI k from nI_nlt (by omega) (by decide)), if_neg (nI_pos (by omega)), if_pos (show nI k ≤ (60 : Int32) from nI_le (b := 60) (by omega) (by decide)), Option.bind_some]
      dsimp only
      rw [if_neg (show ¬ (1 : Int32) = 0 by decide)]
      refine full_both (n := n) (c := 4) (a := nI w) (N := 16) (h := k) (P := gladB) (G := f_X4_thoseGlad) (f := fun x => upd R (sp w 4) (nI x)) (F := fun fuel s b x V => f_X4_hope_L39 fuel (nI w) (nI k) s b x V) hw hz hR (Or.inl ⟨rfl, rfl⟩) (by omega) (by decide) (fun x hx => hw.hope) (fun x hx => hz.up (sp_lt hw8 (by decide))) ?_ (fun W Q hq => m_thoseGlad W h8 hq) ?_ ?_
      · intro x Q hx hq
        unfold f_X3_suppose
        rw [k_again VC R hz hq, Option.bind_some, if_neg (show ¬ (4 : Int32) = 0 by decide), if_neg (show ¬ (4 : Int32) = 1 by decide), if_neg (show ¬ (4 : Int32) = 2 by decide), if_neg (show ¬ (4 : Int32) = 3 by decide), if_pos (show (4 : Int32) = 4 from rfl), inb8 hw8, itt, cl8 hw8, pR_w5]
        rfl
      · intro fuel s b V
        show f_X4_hope_L39 (fuel + 1) _ _ _ _ _ _ = _
        rw [f_X4_hope_L39, if_pos (by decide)]
      · intro fuel s b x W hx
        show f_X4_hope_L39 (fuel + 1) _ _ _ _ _ _ = _
        rw [f_X4_hope_L39, if_neg (show ¬ (16 : Int32) ≤ nI x from nI_ge hx (by decide)), m_spot4, Option.bind_some]
        dsimp only
        rw [isp hw8 (show 4 < 7 by decide), itt, csp hw8 (show 4 < 7 by decide), mR_w, nI_succ']
        rfl
theorem op_more {VC VM : VV} (h : Rel VC VM) (b : Int32) : Both (f_X3_more b VC) (f_X4_more b VM) := by
  obtain ⟨n, R, hw, hf, hz, eC, eM, -, -⟩ := h.at
  have hR : Rel (pR 0 VC R) (mR VM R) := by rw [eC, eM]; exact h
  have h8 := hw.1
  unfold f_X3_more f_X4_more
  rw [← eC, ← eM]
  rcases rng b (60 + 1) (by decide) with hb | ⟨k, hk, rfl⟩
  · rw [m_inN b 0 60 (by decide) (by decide) _ (hb.imp id (lt_of_le_succ (N := 60) (by decide)))]
    simp only [m_find0, k_find0, Option.bind_some, if_true, if_false, one0, eq_self, bV, itt]
    by_cases h0 : b < 0
    · rw [if_pos h0]; exact fd_both hR _ 0
    · rw [if_neg h0, if_neg (show ¬ b ≤ (60 : Int32) from Int32.not_le.mpr (lt_of_le_succ (N := 60) (by decide) (hb.resolve_left h0)))]; exact fd_both hR _ 0
  · rw [m_inY (nI k) 0 60 (by decide) (by decide) _ (nI_pos (by omega)) (show ¬ nI 60 < nI k from nI_nlt (by omega) (by decide)), if_neg (nI_pos (by omega)), if_pos (show nI k ≤ (60 : Int32) from nI_le (b := 60) (by omega) (by decide)), Option.bind_some]
    dsimp only
    rw [if_neg (show ¬ (1 : Int32) = 0 by decide)]
    refine full_both (n := n) (c := 5) (a := -1) (N := 24) (h := k) (P := kpB) (G := f_X4_thoseKept) (f := fun x => upd R 2 (R 2 ||| (1 <<< (nI x &&& 31)))) (F := fun fuel s b x V => f_X4_more_L30 fuel (nI k) s b x V) hw hz hR (Or.inr ⟨by decide, rfl⟩) (by omega) (by decide) (fun x hx => hw.fog) (fun x hx => hz.up (by decide)) ?_ (fun W Q hq => m_thoseKept W h8 hq) ?_ ?_
    · intro x Q hx hq
      unfold f_X3_suppose
      rw [k_again VC R hz hq, Option.bind_some, if_neg (show ¬ (5 : Int32) = 0 by decide), if_neg (show ¬ (5 : Int32) = 1 by decide), if_neg (show ¬ (5 : Int32) = 2 by decide), if_neg (show ¬ (5 : Int32) = 3 by decide), if_neg (show ¬ (5 : Int32) = 4 by decide), if_pos (show (5 : Int32) = 5 from rfl), pR_f, pR_wf]
      rfl
    · intro fuel s b V
      show f_X4_more_L30 (fuel + 1) _ _ _ _ _ = _
      rw [f_X4_more_L30, if_pos (by decide)]
    · intro fuel s b x W hx
      show f_X4_more_L30 (fuel + 1) _ _ _ _ _ = _
      rw [f_X4_more_L30, if_neg (show ¬ (24 : Int32) ≤ nI x from nI_ge hx (by decide)), inb2, itt, itt, tn2, mR_1, mR_w, nI_succ']
      rfl
theorem op_best {VC VM : VV} (h : Rel VC VM) (b : Int32) : Both (f_X3_best b VC) (f_X4_best b VM) := by
  obtain ⟨n, R, hw, hf, hz, eC, eM, -, -⟩ := h.at
  have hR : Rel (pR 0 VC R) (mR VM R) := by rw [eC, eM]; exact h
  have h8 := hw.1
  unfold f_X3_best f_X4_best
  rw [← eC, ← eM]
  rcases rng b (30 + 1) (by decide) with hb | ⟨k, hk, rfl⟩
  · rw [m_inN b 0 30 (by decide) (by decide) _ (hb.imp id (lt_of_le_succ (N := 30) (by decide)))]
    simp only [m_find0, k_find0, Option.bind_some, if_true, if_false, one0, eq_self, bV, itt]
    by_cases h0 : b < 0
    · rw [if_pos h0]; exact fd_both hR _ 0
    · rw [if_neg h0, if_neg (show ¬ b ≤ (30 : Int32) from Int32.not_le.mpr (lt_of_le_succ (N := 30) (by decide) (hb.resolve_left h0)))]; exact fd_both hR _ 0
  · rw [m_inY (nI k) 0 30 (by decide) (by decide) _ (nI_pos (by omega)) (show ¬ nI 30 < nI k from nI_nlt (by omega) (by decide)), if_neg (nI_pos (by omega)), if_pos (show nI k ≤ (30 : Int32) from nI_le (b := 30) (by omega) (by decide)), Option.bind_some]
    dsimp only
    rw [if_neg (show ¬ (1 : Int32) = 0 by decide)]
    refine full_both (n := n) (c := 6) (a := -1) (N := 36) (h := k) (P := kpB) (G := f_X4_thoseKept) (f := fun x => upd R 3 (nI x)) (F := fun fuel s b x V => f_X4_best_L30 fuel (nI k) s b x V) hw hz hR (Or.inr ⟨by decide, rfl⟩) (by omega) (by decide) (fun x hx => hw.vil) (fun x hx => hz.up (by decide)) ?_ (fun W Q hq => m_thoseKept W h8 hq) ?_ ?_
    · intro x Q hx hq
      unfold f_X3_suppose
      rw [k_again VC R hz hq, Option.bind_some, if_neg (show ¬ (6 : Int32) = 0 by decide), if_neg (show ¬ (6 : Int32) = 1 by decide), if_neg (show ¬ (6 : Int32) = 2 by decide), if_neg (show ¬ (6 : Int32) = 3 by decide), if_neg (show ¬ (6 : Int32) = 4 by decide), if_neg (show ¬ (6 : Int32) = 5 by decide), pR_wv]
      rfl
    · intro fuel s b V
      show f_X4_best_L30 (fuel + 1) _ _ _ _ _ = _
      rw [f_X4_best_L30, if_pos (by decide)]
    · intro fuel s b x W hx
      show f_X4_best_L30 (fuel + 1) _ _ _ _ _ = _
      rw [f_X4_best_L30, if_neg (show ¬ (36 : Int32) ≤ nI x from nI_ge hx (by decide)), inb3, itt, tn3, mR_w, nI_succ']
      rfl
