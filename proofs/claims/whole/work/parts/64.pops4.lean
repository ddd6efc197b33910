/-! ===== PURE: calls, fourth ===== -/
theorem Z60.cl {R : Row} (h : Z60 R) {q : Nat} {v : Int32} (hq : q < 8) : Z60 (upd R (sp q 1) v) := h.up (sp_lt hq (by decide))
theorem k_move {n T : Nat} (j : Nat) (V : VV) {R : Row} (hf : Wf n T R) {w c : Nat} (hw : w < n) (hc : c < 36) : f_X0_moveTo j (nI w) (nI c) (pR j V R) = some (pR j V (bringR w (upd R (sp w 1) (nI c)))) := by
  have hw8 : w < 8 := by have := hf.1; omega
  unfold f_X0_moveTo
  rw [inb8 hw8, itt, cl8 hw8, pR_w2]
  show ((f_X0_bringAlong j (nI w) (pR j V (upd R (sp w 1) (nI c)))).bind fun V3 => some V3) = _
  rw [k_bring j V (hf.cell hc) hw]
  rfl
theorem m_move {n T : Nat} (V : VV) {R : Row} (hf : Wf n T R) {w c : Nat} (hw : w < n) (hc : c < 36) : f_X4_comesTo (nI w) (nI c) (mR V (upd R (sp w 1) (nI c))) = some (mR V (bringR w (upd R (sp w 1) (nI c)))) := by
  rw [m_comesTo V (hf.cell hc) hw]
  unfold bringR
  have e5 : upd R (sp w 1) (nI c) (sp w 5) = R (sp w 5) := upd_ne (by unfold sp; omega)
  rw [e5, upd_upd]
  by_cases h : R (sp w 5) = -1
  · rw [if_pos h, if_pos h]
  · rw [if_neg h, if_neg h, upd_eq]
theorem part_n {a : Int32} (h : a < 1 ∨ 4 < a) (b : Int32) (V : VV) : f_X4_isPart a b V = some (0, V) := by
  have e : ∀ x : Int32, ¬ x < 1 → ¬ 4 < x → a ≠ x := fun x h1 h2 z => by
    subst z
    exact h.elim h1 h2
  unfold f_X4_isPart
  rw [if_neg (e 1 (by decide) (by decide)), if_neg (e 2 (by decide) (by decide)), if_neg (e 3 (by decide) (by decide)), if_neg (e 4 (by decide) (by decide))]
/-- how many values a part has -/
def vals (k : Nat) : Nat := if k = 1 then 36 else if k = 2 then 36 else if k = 3 then 4 else 16
theorem k_values {k : Nat} (h1 : 0 < k) (h4 : k < 5) (V : VV) : f_X3_valuesOf (nI k) V = some (nI (vals k), V) := by
  unfold f_X3_valuesOf
  rcases (show k = 1 ∨ k = 2 ∨ k = 3 ∨ k = 4 by omega) with rfl | rfl | rfl | rfl
  · rw [if_pos (by decide)]; rfl
  · rw [if_neg (by decide), if_pos (by decide)]; rfl
  · rw [if_neg (by decide), if_neg (by decide), if_pos (by decide)]; rfl
  · rw [if_neg (by decide), if_neg (by decide), if_neg (by decide)]; rfl
theorem part_y {k v : Nat} (h1 : 0 < k) (h4 : k < 5) (hv : v < vals k) (V : VV) : f_X4_isPart (nI k) (nI v) V = some (1, V) := by
  unfold f_X4_isPart
  rcases (show k = 1 ∨ k = 2 ∨ k = 3 ∨ k = 4 by omega) with rfl | rfl | rfl | rfl
  · rw [if_pos (by decide), m_isCell_y hv]; rfl
  · rw [if_neg (by decide), if_pos (by decide), m_isCell_y hv]; rfl
  · have hv : v < 4 := hv
    rw [if_neg (by decide), if_neg (by decide), if_pos (by decide), m_inY (nI v) 0 3 (by decide) (by decide) V (nI_pos (by omega)) (show ¬ nI 3 < nI v from nI_nlt (by omega) (by decide))]; rfl
  · have hv : v < 16 := hv
    rw [if_neg (by decide), if_neg (by decide), if_neg (by decide), if_pos (by decide), m_inY (nI v) 0 15 (by decide) (by decide) V (nI_pos (by omega)) (show ¬ nI 15 < nI v from nI_nlt (by omega) (by decide))]; rfl
theorem part_no {k : Nat} {v : Int32} (h1 : 0 < k) (h4 : k < 5) (hv : v < 0 ∨ nI (vals k) ≤ v) (V : VV) : f_X4_isPart (nI k) v V = some (0, V) := by
  unfold f_X4_isPart
  rcases (show k = 1 ∨ k = 2 ∨ k = 3 ∨ k = 4 by omega) with rfl | rfl | rfl | rfl
  · rw [if_pos (by decide), m_isCell_n hv]; rfl
  · rw [if_neg (by decide), if_pos (by decide), m_isCell_n hv]; rfl
  · have hv : v < 0 ∨ nI 4 ≤ v := hv
    rw [if_neg (by decide), if_neg (by decide), if_pos (by decide), m_inN v 0 3 (by decide) (by decide) V (hv.imp id (lt_of_le_succ (N := 3) (by decide)))]; rfl
  · have hv : v < 0 ∨ nI 16 ≤ v := hv
    rw [if_neg (by decide), if_neg (by decide), if_neg (by decide), if_pos (by decide), m_inN v 0 15 (by decide) (by decide) V (hv.imp id (lt_of_le_succ (N := 15) (by decide)))]; rfl
theorem spot_k (w k : Nat) (V : VV) : f_X4_spotOf (nI w) (nI k) V = some (nI (sp w k), V) := by show some ((4 + 7 * nI w) + nI k, V) = _; rw [spot_nI]
theorem FogOk.bring {R : Row} (h : FogOk R) {w : Nat} : FogOk (bringR w R) := by
  obtain ⟨f, h1, h2⟩ := h
  exact ⟨f, h1, by rw [two_bring]; exact h2⟩
theorem op_set {VC VM : VV} (h : Rel VC VM) (a b c : Int32) : Both (f_X3_set a b c VC) (f_X4_set a b c VM) := by
  obtain ⟨n, R, hw, hf, hz, eC, eM, -, -⟩ := h.at
  have hR : Rel (pR 0 VC R) (mR VM R) := by rw [eC, eM]; exact h
  have h8 := hw.1
  unfold f_X3_set f_X4_set
  rw [← eC, ← eM]
  rcases rng a n (by omega) with ha | ⟨w, hwn, rfl⟩
  · simp only [m_isW_n VM h8 hw.2.1 ha, k_has_n 0 VC hw.2.1 ha, k_find0, m_find0, Option.bind_some, if_true, if_false, one0, eq_self, bV, itt]
    exact fd_both hR _ 0
  · have hw8 : w < 8 := by omega
    simp only [m_isW_y VM h8 hw.2.1 hwn, k_hasT 0 VC hw.2.1 hwn h8, Option.bind_some, if_true, if_false, one0, eq_self, bV, itt]
    by_cases b1 : b < 1
    · rw [if_pos b1, part_n (Or.inl b1)]
      simp only [k_find0, m_find0, Option.bind_some, if_true, if_false, one0, eq_self, bV, itt]
      exact fd_both hR _ 0
    · rw [if_neg b1]
      rcases rng b 5 (by decide) with hb | ⟨k, hk, rfl⟩
      · have hb0 : ¬ b < 0 := fun z => b1 (Int32.lt_trans z (by decide))
        have b4 := lt_of_le_succ (N := 4) (by decide) (hb.resolve_left hb0)
        rw [if_pos (show (4 : Int32) < b from b4), part_n (Or.inr b4)]
        simp only [k_find0, m_find0, Option.bind_some, if_true, if_false, one0, eq_self, bV, itt]
        exact fd_both hR _ 0
      · have k0 : 0 < k := by
          rcases Nat.eq_zero_or_pos k with e | e
          · subst e; exact absurd (show nI 0 < (1 : Int32) by decide) b1
          · exact e
        have v36 : vals k ≤ 36 := by
          have key : ∀ k, k < 5 → vals k ≤ 36 := by decide
          exact key k hk
        rw [if_neg (show ¬ (4 : Int32) < nI k from nI_nlt (a := 4) (by omega) (by decide)), k_values k0 hk]
        simp only [Option.bind_some]
        rcases rng c (vals k) (by omega) with hc | ⟨v, hv, rfl⟩
        · rw [part_no k0 hk hc]
          simp only [k_find0, m_find0, Option.bind_some, if_true, if_false, one0, eq_self, bV, itt]
          by_cases c0 : c < 0
          · rw [if_pos c0]; exact fd_both hR _ 0
          · rw [if_neg c0, if_neg (Int32.not_lt.mpr (hc.resolve_left c0))]; exact fd_both hR _ 0
        · rw [if_neg (nI_pos (by omega)), if_pos (nI_lt hv (by omega)), part_y k0 hk hv, tell_at VC R hw8 0 k (by omega)]
          simp only [Option.bind_some, if_true, if_false, one0, eq_self, bV, itt, spot_k, m_becomes VM R (sp_lt hw8 (show k < 7 by omega))]
          rcases (show k = 1 ∨ k = 2 ∨ k = 3 ∨ k = 4 by omega) with rfl | rfl | rfl | rfl
          · have hv : v < 36 := hv
            rw [if_pos (show nI 1 = (1 : Int32) from rfl), if_pos (show nI 1 = (1 : Int32) from rfl), k_move 0 VC hw hwn hv, m_move VM hw hwn hv]
            exact ⟨_, _, _, rfl, rfl, h.row ((hw.cell hv).bring hwn) (hf.up (sp2 w 1)).bring ((hz.cl hw8).bring (hw.cell hv) hwn)⟩
          · rw [if_neg (show ¬ nI 2 = (1 : Int32) by decide), if_neg (show ¬ nI 2 = (1 : Int32) by decide), if_pos (show nI 2 = (2 : Int32) from rfl), inb8 hw8, itt, cl8 hw8, pR_w3]
            exact ⟨_, _, _, rfl, rfl, h.row hw.start (hf.up (sp2 w 2)) (hz.up (sp_lt hw8 (by decide)))⟩
          · have hv : v < 4 := hv
            rw [if_neg (show ¬ nI 3 = (1 : Int32) by decide), if_neg (show ¬ nI 3 = (1 : Int32) by decide), if_neg (show ¬ nI 3 = (2 : Int32) by decide), if_pos (show nI 3 = (3 : Int32) from rfl), inb8 hw8, itt, cl8 hw8, pR_w4]
            exact ⟨_, _, _, rfl, rfl, h.row (hw.head hv) (hf.up (sp2 w 3)) (hz.up (sp_lt hw8 (by decide)))⟩
          · rw [if_neg (show ¬ nI 4 = (1 : Int32) by decide), if_neg (show ¬ nI 4 = (1 : Int32) by decide), if_neg (show ¬ nI 4 = (2 : Int32) by decide), if_neg (show ¬ nI 4 = (3 : Int32) by decide), inb8 hw8, itt, cl8 hw8, pR_w5]
            exact ⟨_, _, _, rfl, rfl, h.row hw.hope (hf.up (sp2 w 4)) (hz.up (sp_lt hw8 (by decide)))⟩
/-! first hours -/
/-- what is looked for -/
def soB (e : Nat) (w : Nat) (o : Int32) (R : Row) : Bool := if e = 0 then decide (R (sp w 5) = o) else if e = 1 then !decide (R (sp w 5) = -1) else if e = 2 then decide (R (sp w 5) = -1) else gladB R w
theorem so0 (w : Nat) (o : Int32) (R : Row) : soB 0 w o R = decide (R (sp w 5) = o) := rfl
theorem so1 (w : Nat) (o : Int32) (R : Row) : soB 1 w o R = !decide (R (sp w 5) = -1) := rfl
theorem so2 (w : Nat) (o : Int32) (R : Row) : soB 2 w o R = decide (R (sp w 5) = -1) := rfl
theorem so3 (w : Nat) (o : Int32) (R : Row) : soB 3 w o R = gladB R w := rfl
theorem m_isSo (V : VV) (R : Row) {w e : Nat} (hw : w < 8) (he : e < 4) (o : Int32) : f_X4_isSo (nI e) (nI w) o (mR V R) = some (if soB e w o R = true then 1 else 0, mR V R) := by
  unfold f_X4_isSo
  rcases (show e = 0 ∨ e = 1 ∨ e = 2 ∨ e = 3 by omega) with rfl | rfl | rfl | rfl
  · rw [if_pos (show nI 0 = (0 : Int32) from rfl), m_its5 V R hw, Option.bind_some, so0]
    by_cases g : R (sp w 5) = o
    · rw [if_pos g, if_pos (by rw [decide_eq_true_eq]; exact g)]
    · rw [if_neg g, if_neg (by rw [decide_eq_true_eq]; exact g)]
  · rw [if_neg (show ¬ nI 1 = (0 : Int32) by decide), if_pos (show nI 1 = (1 : Int32) from rfl), m_isFree V R hw, Option.bind_some, so1]
    dsimp only
    by_cases g : R (sp w 5) = -1
    · rw [if_pos g, if_neg (show ¬ (1 : Int32) = 0 by decide), decide_eq_true g, if_neg (show ¬ (!true) = true by decide)]
    · rw [if_neg g, if_pos (show (0 : Int32) = 0 from rfl), decide_eq_false g, if_pos (show (!false) = true from rfl)]
  · rw [if_neg (show ¬ nI 2 = (0 : Int32) by decide), if_neg (show ¬ nI 2 = (1 : Int32) by decide), if_pos (show nI 2 = (2 : Int32) from rfl), m_isFree V R hw, Option.bind_some, so2]
    by_cases g : R (sp w 5) = -1
    · rw [if_pos g, if_pos (by rw [decide_eq_true_eq]; exact g)]
    · rw [if_neg g, if_neg (by rw [decide_eq_true_eq]; exact g)]
  · rw [if_neg (show ¬ nI 3 = (0 : Int32) by decide), if_neg (show ¬ nI 3 = (1 : Int32) by decide), if_neg (show ¬ nI 3 = (2 : Int32) by decide), m_isGlad V R hw, Option.bind_some, so3]
/-- the class's names for the same -/
def evC (e : Nat) (o : Int32) : Int32 × Int32 := if e = 0 then (0, o) else if e = 1 then (0, -2) else if e = 2 then (1, -2) else (2, -2)
theorem k_shows (V : VV) (R : Row) {w e : Nat} (hw : w < 8) (he : e < 4) (o : Int32) (ho : e = 0 → o ≠ -2) : f_X3_trialShows (evC e o).1 (nI w) (evC e o).2 (pR 1 V R) = some (if soB e w o R = true then 1 else 0, pR 1 V R) := by
  unfold f_X3_trialShows
  rcases (show e = 0 ∨ e = 1 ∨ e = 2 ∨ e = 3 by omega) with rfl | rfl | rfl | rfl
  · rw [show evC 0 o = (0, o) from rfl, so0]
    dsimp only
    rw [if_pos (show (0 : Int32) = 0 from rfl), if_neg (ho rfl), inb8 hw, itt, cl8 hw, pR_6]
    by_cases g : R (sp w 5) = o
    · rw [if_pos g, if_pos (by rw [decide_eq_true_eq]; exact g)]
    · rw [if_neg g, if_neg (by rw [decide_eq_true_eq]; exact g)]
  · rw [show evC 1 o = (0, -2) from rfl, so1]
    dsimp only
    rw [if_pos (show (0 : Int32) = 0 from rfl), if_pos (show (-2 : Int32) = -2 from rfl), k_isFree 1 V R hw, Option.bind_some]
    dsimp only
    by_cases g : R (sp w 5) = -1
    · rw [if_pos g, if_neg (show ¬ (1 : Int32) = 0 by decide), decide_eq_true g, if_neg (show ¬ (!true) = true by decide)]
    · rw [if_neg g, if_pos (show (0 : Int32) = 0 from rfl), decide_eq_false g, if_pos (show (!false) = true from rfl)]
  · rw [show evC 2 o = (1, -2) from rfl, so2]
    dsimp only
    rw [if_neg (show ¬ (1 : Int32) = 0 by decide), if_pos (show (1 : Int32) = 1 from rfl), k_isFree 1 V R hw, Option.bind_some]
    by_cases g : R (sp w 5) = -1
    · rw [if_pos g, if_pos (by rw [decide_eq_true_eq]; exact g)]
    · rw [if_neg g, if_neg (by rw [decide_eq_true_eq]; exact g)]
  · rw [show evC 3 o = (2, -2) from rfl, so3]
    dsimp only
    rw [if_neg (show ¬ (2 : Int32) = 0 by decide), if_neg (show ¬ (2 : Int32) = 1 by decide), k_isGlad 1 V R hw, Option.bind_some]
/-- the first of the hours i, i+1, .. i+d-1 at which P holds, else i+d -/
def fst (P : Nat → Bool) : Nat → Nat → Nat
  | 0, i => i
  | d + 1, i => if P i = true then i else fst P d (i + 1)
theorem fst_le (P : Nat → Bool) : ∀ d i, i ≤ fst P d i ∧ fst P d i ≤ i + d := by
  intro d
  induction d with
  | zero => intro i; exact ⟨Nat.le_refl _, Nat.le_refl _⟩
  | succ d ih =>
    intro i
    unfold fst
    by_cases h : P i = true
    · rw [if_pos h]; omega
    · rw [if_neg h]; have := ih (i + 1); omega
/-- cut shorter, the search ends at the bound or at the same place -/
theorem fst_cut (P : Nat → Bool) : ∀ d e i, e ≤ d → fst P e i = if fst P d i < i + e then fst P d i else i + e := by
  intro d
  induction d with
  | zero => intro e i h; have : e = 0 := by omega
            subst this; rw [if_neg (by unfold fst; omega)]; rfl
  | succ d ih =>
    intro e i h
    cases e with
    | zero => have := (fst_le P (d + 1) i).1; rw [if_neg (by omega)]; rfl
    | succ e =>
      unfold fst
      by_cases g : P i = true
      · rw [if_pos g, if_pos g, if_pos (by omega)]
      · rw [if_neg g, if_neg g, ih e (i + 1) (by omega), show i + 1 + e = i + (e + 1) by omega]
def hrP (n e w : Nat) (o : Int32) (R : Row) (i : Nat) : Bool := soB e w o (onR n i R)
theorem m_first {n T : Nat} (V : VV) {R : Row} (hf : Wf n T R) (hz : Z60 R) {w e m : Nat} (hw : w < 8) (he : e < 4) (o : Int32) (hm : m < 150) : ∃ Q, Z60 Q ∧ f_X4_firstSo (nI e) (nI w) o (nI m) (mR V R) = some (nI (fst (hrP n e w o R) (m + 1) 0), mR V Q) := by
  have key : ∀ d i fuel, i + d = m + 1 → d < fuel → ∃ Q, Z60 Q ∧ f_X4_firstSo_L3 fuel (nI e) (nI w) o (nI m) (nI i) (mR V (onR n i R)) = some (nI (fst (hrP n e w o R) d i), mR V Q) := by
    intro d
    induction d with
    | zero =>
      intro i fuel h1 h2
      obtain ⟨f, rfl⟩ : ∃ f, fuel = f + 1 := ⟨fuel - 1, by omega⟩
      rw [f_X4_firstSo_L3, if_pos (nI_lt (by omega) (by omega))]
      exact ⟨_, (on_ok hf hz i).2, rfl⟩
    | succ d ih =>
      intro i fuel h1 h2
      obtain ⟨f, rfl⟩ : ∃ f, fuel = f + 1 := ⟨fuel - 1, by omega⟩
      rw [f_X4_firstSo_L3, if_neg (nI_nlt (by omega) (by omega)), m_isSo V _ hw he, Option.bind_some]
      dsimp only
      unfold fst
      by_cases g : soB e w o (onR n i R) = true
      · rw [if_pos g, if_neg (show ¬ (1 : Int32) = 0 by decide), if_pos (show hrP n e w o R i = true from g)]
        exact ⟨_, (on_ok hf hz i).2, rfl⟩
      · rw [if_neg g, if_pos (show (0 : Int32) = 0 from rfl), if_neg (show ¬ hrP n e w o R i = true from g), m_goesHour V (on_ok hf hz i).1, Option.bind_some, nI_succ', onR_s]
        exact ih (i + 1) f (by omega) (by omega)
  exact key (m + 1) 0 200 (by omega) (by omega)
theorem k_first {n T : Nat} (V : VV) {R : Row} (hf : Wf n T R) (hz : Z60 R) {w e m : Nat} (hw : w < 8) (he : e < 4) (o : Int32) (ho : e = 0 → o ≠ -2) (hm : m < 150) : ∃ Q, Z60 Q ∧ f_X3_firstInTrial (evC e o).1 (nI w) (evC e o).2 (nI m) (pR 1 V R) = some (if fst (hrP n e w o R) (m + 1) 0 ≤ m then nI (fst (hrP n e w o R) (m + 1) 0) else -1, pR 1 V Q) := by
  have key : ∀ d i fuel, i + d = m → d + 1 < fuel → ∃ Q, Z60 Q ∧ f_X3_firstInTrial_L3 fuel (evC e o).1 (nI w) (evC e o).2 (nI m) (nI i) (pR 1 V (onR n i R)) = some (if fst (hrP n e w o R) (d + 1) i ≤ m then nI (fst (hrP n e w o R) (d + 1) i) else -1, pR 1 V Q) := by
    intro d
    induction d with
    | zero =>
      intro i fuel h1 h2
      obtain ⟨f, rfl⟩ : ∃ f, fuel = f + 1 + 1 := ⟨fuel - 2, by omega⟩
      rw [f_X3_firstInTrial_L3, if_neg (nI_nlt (by omega) (by omega)), k_shows V _ hw he o ho, Option.bind_some]
      dsimp only
      unfold fst
      by_cases g : soB e w o (onR n i R) = true
      · rw [if_pos g, if_neg (show ¬ (1 : Int32) = 0 by decide), if_pos (show hrP n e w o R i = true from g), if_pos (show i ≤ m by omega)]
        exact ⟨_, (on_ok hf hz i).2, rfl⟩
      · rw [if_neg g, if_pos (show (0 : Int32) = 0 from rfl), if_pos (nI_le (by omega) (by omega)), if_neg (show ¬ hrP n e w o R i = true from g), nI_succ', f_X3_firstInTrial_L3, if_pos (nI_lt (by omega) (by omega))]
        unfold fst
        rw [if_neg (show ¬ i + 1 ≤ m by omega)]
        exact ⟨_, (on_ok hf hz i).2, rfl⟩
    | succ d ih =>
      intro i fuel h1 h2
      obtain ⟨f, rfl⟩ : ∃ f, fuel = f + 1 := ⟨fuel - 1, by omega⟩
      rw [f_X3_firstInTrial_L3, if_neg (nI_nlt (by omega) (by omega)), k_shows V _ hw he o ho, Option.bind_some]
      dsimp only
      have ef : fst (hrP n e w o R) (d + 1 + 1) i = if hrP n e w o R i = true then i else fst (hrP n e w o R) (d + 1) (i + 1) := rfl
      rw [ef]
      by_cases g : soB e w o (onR n i R) = true
      · rw [if_pos g, if_neg (show ¬ (1 : Int32) = 0 by decide), if_pos (show hrP n e w o R i = true from g), if_pos (show i ≤ m by omega)]
        exact ⟨_, (on_ok hf hz i).2, rfl⟩
      · rw [if_neg g, if_pos (show (0 : Int32) = 0 from rfl), if_neg (nI_ge (show i < m by omega) (by omega)), if_neg (show ¬ hrP n e w o R i = true from g), k_passHour 1 V (on_ok hf hz i).1, Option.bind_some, nI_succ', onR_s]
        exact ih (i + 1) f (by omega) (by omega)
  exact key m 0 200 (by omega) (by omega)
theorem first_both {VC VM : VV} {n : Nat} {R : Row} (hw : Wf n 99999 R) (hz : Z60 R) (hR : Rel (pR 0 VC R) (mR VM R)) {w e : Nat} (hwn : w < n) (he : e < 4) (o : Int32) (ho : e = 0 → o ≠ -2) : Both ((f_X3_firstFromNow (evC e o).1 (nI w) (evC e o).2 (pR 0 VC R)).bind fun q3 => ((f_X3_orNone q3.1 q3.2).bind fun q4 => some (q4.1, q4.2))) ((f_X4_foundSo (nI e) (nI w) o (mR VM R)).bind fun q4 => some (q4.1, q4.2)) := by
  have hw8 : w < 8 := by have := hw.1; omega
  have z4 : Z60 (VM.1 4) := by have := hR.2.1.2.2.1; rw [mR_ne _ _ (by decide)] at this; exact this
  have zt : Z60 (rowC 1 VC) := by have := hR.2.1.2.2.2.1; rw [rowC_pR_ne (by decide)] at this; exact this
  unfold f_X3_firstFromNow f_X4_foundSo
  obtain ⟨Q1, q1, k1⟩ := k_first (pR 0 VC R) hw hz (m := 100) hw8 he o ho (by decide)
  obtain ⟨Q2, q2, k2⟩ := m_first (sR VM 4 R) hw hz (m := 100) hw8 he o (by decide)
  have k1 : f_X3_firstInTrial (evC e o).1 (nI w) (evC e o).2 100 (pR 1 (pR 0 VC R) R) = _ := k1
  have k2 : f_X4_firstSo (nI e) (nI w) o 100 (mR (sR VM 4 R) R) = _ := k2
  simp only [k_trialR VC R hz zt, m_laysR VM R hz z4, k1, k2, m_takesR VM R _ _ hz q2, Option.bind_some]
  have hB := hR.both q1 hz
  have hle := fst_le (hrP n e w o R) (100 + 1) 0
  unfold f_X3_orNone
  by_cases g : fst (hrP n e w o R) (100 + 1) 0 ≤ 100
  · rw [if_pos g, if_neg (nI_pos (by omega)), if_pos (show nI (fst (hrP n e w o R) (100 + 1) 0) ≤ (100 : Int32) from nI_le (b := 100) g (by decide))]
    exact ⟨_, _, _, rfl, rfl, hB⟩
  · rw [if_neg g, if_pos (show (-1 : Int32) < 0 by decide), if_neg (show ¬ nI (fst (hrP n e w o R) (100 + 1) 0) ≤ (100 : Int32) from nI_ge (a := 100) (by omega) (by omega)), k_find3, m_find3]
    exact fd_both hB _ 3
theorem ne_m2 {o : Nat} (h : o < 8) : nI o ≠ (-2 : Int32) := by
  have key : ∀ o, o < 8 → nI o ≠ (-2 : Int32) := by decide
  exact key o h
theorem op_meet {VC VM : VV} (h : Rel VC VM) (a b : Int32) : Both (f_X3_meet a b VC) (f_X4_meet a b VM) := by
  obtain ⟨n, R, hw, hf, hz, eC, eM, -, -⟩ := h.at
  have hR : Rel (pR 0 VC R) (mR VM R) := by rw [eC, eM]; exact h
  have h8 := hw.1
  unfold f_X3_meet f_X4_meet
  rw [← eC, ← eM]
  rcases two_ok VC VM h8 hw.2.1 a b with ⟨e1, e2⟩ | ⟨w, o, hwn, hon, hne, rfl, rfl, e1, e2⟩
  · rw [e1, e2]
    simp only [k_find0, m_find0, Option.bind_some, if_true, if_false, one0, eq_self, bV, itt]
    exact fd_both hR _ 0
  · rw [e1, e2, Option.bind_some, Option.bind_some]
    dsimp only
    rw [if_neg (show ¬ (1 : Int32) = 0 by decide), if_neg (show ¬ (1 : Int32) = 0 by decide)]
    exact first_both hw hz hR hwn (e := 0) (by decide) (nI o) (fun _ => ne_m2 (by omega))
theorem op_when {VC VM : VV} (h : Rel VC VM) (a : Int32) : Both (f_X3_when a VC) (f_X4_when a VM) := by
  obtain ⟨n, R, hw, hf, hz, eC, eM, -, -⟩ := h.at
  have hR : Rel (pR 0 VC R) (mR VM R) := by rw [eC, eM]; exact h
  have h8 := hw.1
  unfold f_X3_when f_X4_when
  rw [← eC, ← eM]
  rcases rng a n (by omega) with ha | ⟨w, hwn, rfl⟩
  · simp only [m_isW_n VM h8 hw.2.1 ha, k_has_n 0 VC hw.2.1 ha, k_find0, m_find0, Option.bind_some, if_true, if_false, one0, eq_self, bV, itt]
    exact fd_both hR _ 0
  · rw [m_isW_y VM h8 hw.2.1 hwn, k_hasT 0 VC hw.2.1 hwn h8, Option.bind_some, Option.bind_some]
    dsimp only
    rw [if_neg (show ¬ (1 : Int32) = 0 by decide), if_neg (show ¬ (1 : Int32) = 0 by decide)]
    exact first_both hw hz hR hwn (e := 1) (by decide) 0 (by decide)
theorem op_till {VC VM : VV} (h : Rel VC VM) (a : Int32) : Both (f_X3_till a VC) (f_X4_till a VM) := by
  obtain ⟨n, R, hw, hf, hz, eC, eM, -, -⟩ := h.at
  have hR : Rel (pR 0 VC R) (mR VM R) := by rw [eC, eM]; exact h
  have h8 := hw.1
  unfold f_X3_till f_X4_till
  rw [← eC, ← eM]
  rcases rng a n (by omega) with ha | ⟨w, hwn, rfl⟩
  · simp only [m_isW_n VM h8 hw.2.1 ha, k_has_n 0 VC hw.2.1 ha, k_find0, m_find0, Option.bind_some, if_true, if_false, one0, eq_self, bV, itt]
    exact fd_both hR _ 0
  · rw [m_isW_y VM h8 hw.2.1 hwn, k_hasT 0 VC hw.2.1 hwn h8, Option.bind_some, Option.bind_some]
    dsimp only
    rw [if_neg (show ¬ (1 : Int32) = 0 by decide), if_neg (show ¬ (1 : Int32) = 0 by decide)]
    exact first_both hw hz hR hwn (e := 2) (by decide) 0 (by decide)
theorem op_glad {VC VM : VV} (h : Rel VC VM) (a : Int32) : Both (f_X3_glad a VC) (f_X4_glad a VM) := by
  obtain ⟨n, R, hw, hf, hz, eC, eM, -, -⟩ := h.at
  have hR : Rel (pR 0 VC R) (mR VM R) := by rw [eC, eM]; exact h
  have h8 := hw.1
  unfold f_X3_glad f_X4_glad
  rw [← eC, ← eM]
  rcases rng a n (by omega) with ha | ⟨w, hwn, rfl⟩
  · simp only [m_isW_n VM h8 hw.2.1 ha, k_has_n 0 VC hw.2.1 ha, k_find0, m_find0, Option.bind_some, if_true, if_false, one0, eq_self, bV, itt]
    exact fd_both hR _ 0
  · rw [m_isW_y VM h8 hw.2.1 hwn, k_hasT 0 VC hw.2.1 hwn h8, Option.bind_some, Option.bind_some]
    dsimp only
    rw [if_neg (show ¬ (1 : Int32) = 0 by decide), if_neg (show ¬ (1 : Int32) = 0 by decide)]
    exact first_both hw hz hR hwn (e := 3) (by decide) 0 (by decide)
