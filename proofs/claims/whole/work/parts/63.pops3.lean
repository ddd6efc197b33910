/-! ===== PURE: calls, third ===== -/
theorem two_ok {n : Nat} (VC VM : VV) {R : Row} (h8 : n ≤ 8) (hn : R 0 = nI n) (a b : Int32) : (f_X3_areTwo a b (pR 0 VC R) = some (0, pR 0 VC R) ∧ f_X4_areTwo a b (mR VM R) = some (0, mR VM R)) ∨ ∃ w o, w < n ∧ o < n ∧ w ≠ o ∧ a = nI w ∧ b = nI o ∧ f_X3_areTwo a b (pR 0 VC R) = some (1, pR 0 VC R) ∧ f_X4_areTwo a b (mR VM R) = some (1, mR VM R) := by
  unfold f_X3_areTwo f_X4_areTwo
  rcases rng a n (by omega) with ha | ⟨w, hwn, rfl⟩
  · refine Or.inl ?_
    simp only [m_isW_n VM h8 hn ha, k_has_n 0 VC hn ha, Option.bind_some, if_true, if_false, one0, eq_self, bV, itt]
    exact ⟨trivial, trivial⟩
  · simp only [m_isW_y VM h8 hn hwn, k_hasT 0 VC hn hwn h8, Option.bind_some, if_true, if_false, one0, eq_self, bV, itt]
    rcases rng b n (by omega) with hb | ⟨o, hon, rfl⟩
    · refine Or.inl ?_
      simp only [m_isW_n VM h8 hn hb, k_has_n 0 VC hn hb, Option.bind_some, if_true, if_false, one0, eq_self, bV, itt]
      exact ⟨trivial, trivial⟩
    · simp only [m_isW_y VM h8 hn hon, k_hasT 0 VC hn hon h8, Option.bind_some, if_true, if_false, one0, eq_self, bV, itt]
      by_cases e : w = o
      · subst e
        exact Or.inl ⟨if_pos rfl, if_pos rfl⟩
      · have e' : ¬ nI w = nI o := fun z => e ((nI_eq (by omega) (by omega)).mp z)
        exact Or.inr ⟨w, o, hwn, hon, e, rfl, rfl, if_neg e', if_neg e'⟩
theorem FogOk.keep {R : Row} (h : FogOk R) {w o : Nat} : FogOk (keepR w o R) := (((h.up (sp2 _ 5)).up (sp2 _ 5)).up (sp2 _ 6)).up (sp2 _ 6)
theorem op_keep {VC VM : VV} (h : Rel VC VM) (a b : Int32) : Both (f_X3_keep a b VC) (f_X4_keep a b VM) := by
  obtain ⟨n, R, hw, hf, hz, eC, eM, -, -⟩ := h.at
  have hR : Rel (pR 0 VC R) (mR VM R) := by rw [eC, eM]; exact h
  have h8 := hw.1
  unfold f_X3_keep f_X4_keep
  rw [← eC, ← eM]
  rcases two_ok VC VM h8 hw.2.1 a b with ⟨e1, e2⟩ | ⟨w, o, hwn, hon, hne, rfl, rfl, e1, e2⟩
  · rw [e1, e2]
    simp only [k_find0, m_find0, Option.bind_some, if_true, if_false, one0, eq_self, bV, itt]
    exact fd_both hR _ 0
  · rw [e1, e2]
    have hw8 : w < 8 := by omega
    have ho8 : o < 8 := by omega
    simp only [Option.bind_some, if_true, if_false, one0, eq_self, bV, itt, m_isFree VM R hw8, k_isFree 0 VC R hw8]
    by_cases f1 : R (sp w 5) = -1
    · rw [if_pos f1, if_neg (show ¬ (1 : Int32) = 0 by decide)]
      simp only [m_isFree VM R ho8, k_isFree 0 VC R ho8, Option.bind_some]
      by_cases f2 : R (sp o 5) = -1
      · rw [if_pos f2, if_neg (show ¬ (1 : Int32) = 0 by decide)]
        simp only [inb8 hw8, inb8 ho8, cl8 hw8, cl8 ho8, pR_2', m_its1 VM R hw8, m_its1 VM R ho8, Option.bind_some, if_true, if_false, one0, eq_self, bV, itt]
        by_cases g : R (sp w 1) = R (sp o 1)
        · have hk : Wf n 99999 (keepR w o R) := hw.keep hwn hon
          rw [if_pos g, if_pos g]
          simp only [k_keep 0 VC R hw8 ho8, m_keeps VM R hw8 ho8, k_keptSet 0 VC hk.1 hk.2.1, m_thoseKept VM hk.1 hk.2.1, cnt_ok (kpB (keepR w o R)) hk.1, Option.bind_some, if_true, if_false, one0, eq_self, bV, itt]
          exact ⟨_, _, _, rfl, rfl, h.row hk hf.keep (hz.keep hw8 ho8)⟩
        · rw [if_neg g, if_neg g]
          simp only [k_find4, m_find4, Option.bind_some, if_true, if_false, one0, eq_self, bV, itt]
          exact fd_both hR _ 4
      · rw [if_neg f2, if_pos (show (0 : Int32) = 0 from rfl)]
        simp only [k_find4, m_find4, Option.bind_some, if_true, if_false, one0, eq_self, bV, itt]
        exact fd_both hR _ 4
    · rw [if_neg f1, if_pos (show (0 : Int32) = 0 from rfl)]
      simp only [k_find4, m_find4, Option.bind_some, if_true, if_false, one0, eq_self, bV, itt]
      exact fd_both hR _ 4
theorem under_ok : ∀ k, k < 6 → ∀ b, b < 6 → ∀ V, ∃ r, (r = 0 ∨ r = 1) ∧ f_X3_isOrIsUnder (nI k) (nI b) V = some (r, V) ∧ f_X4_isUnder (nI k) (nI b) V = some (r, V) := by
  intro k hk b hb V
  have un : ∀ x y, x < 6 → y < 6 → f_X4_isUnder (nI x) (nI y) V = some ((if nI y = 0 then 1 else if nI x = nI y then 1 else if nI x ≤ 3 then 0 else if nI x - 3 = nI y then 1 else 0), V) := by
    intro x y _ _
    unfold f_X4_isUnder
    by_cases a1 : nI y = 0
    · rw [if_pos a1, if_pos a1]
    · rw [if_neg a1, if_neg a1]
      by_cases a2 : nI x = nI y
      · rw [if_pos a2, if_pos a2]
      · rw [if_neg a2, if_neg a2]
        by_cases a3 : nI x ≤ 3
        · rw [if_pos a3, if_pos a3]
        · rw [if_neg a3, if_neg a3]
          by_cases a4 : nI x - 3 = nI y
          · rw [if_pos a4, if_pos a4]
          · rw [if_neg a4, if_neg a4]
  have up : ∀ x f (i : Nat), x < 6 → i < 6 → f_X3_isOrIsUnder_L4 (f + 1) (nI b) (nI x) (nI i) V = if nI x = nI b then some (1, V) else f_X3_isOrIsUnder_L4 f (nI b) (kaV x) (nI (i + 1)) V := by
    intro x f i hx hi
    rw [f_X3_isOrIsUnder_L4, if_neg (show ¬ (6 : Int32) ≤ nI i from nI_ge hi (by decide)), k_isKind_y hx, Option.bind_some]
    dsimp only
    rw [if_neg (show ¬ (1 : Int32) = 0 by decide), inb_nI (n := 6) hx (by decide), itt, cl_nI (by omega), nI_succ']
  have dn : ∀ f (i : Nat), i < 6 → f_X3_isOrIsUnder_L4 (f + 1) (nI b) (-1) (nI i) V = some (0, V) := by
    intro f i hi
    rw [f_X3_isOrIsUnder_L4, if_neg (show ¬ (6 : Int32) ≤ nI i from nI_ge hi (by decide)), k_isKind_n (Or.inl (by decide)), Option.bind_some]
    dsimp only
    rw [if_pos rfl]
  have e0 : ∀ f (i : Nat), i < 5 → f_X3_isOrIsUnder_L4 (f + 2) (nI b) (nI 0) (nI i) V = if nI 0 = nI b then some (1, V) else some (0, V) := by
    intro f i hi
    rw [up 0 (f + 1) i (by decide) (by omega), show kaV 0 = -1 from rfl, dn f (i + 1) (by omega)]
  have e1 : ∀ x, x < 4 → 0 < x → ∀ f (i : Nat), i < 4 → f_X3_isOrIsUnder_L4 (f + 3) (nI b) (nI x) (nI i) V = if nI x = nI b then some (1, V) else if nI 0 = nI b then some (1, V) else some (0, V) := by
    intro x hx h0 f i hi
    have ka : kaV x = nI 0 := by
      have key : ∀ x, x < 4 → 0 < x → kaV x = nI 0 := by decide
      exact key x hx h0
    rw [up x (f + 2) i (by omega) (by omega), ka, e0 f (i + 1) (by omega)]
  have e2 : ∀ x, x < 6 → 3 < x → ∀ f (i : Nat), i < 3 → f_X3_isOrIsUnder_L4 (f + 4) (nI b) (nI x) (nI i) V = if nI x = nI b then some (1, V) else if nI (x - 3) = nI b then some (1, V) else if nI 0 = nI b then some (1, V) else some (0, V) := by
    intro x hx h0 f i hi
    have ka : kaV x = nI (x - 3) := by
      have key : ∀ x, x < 6 → 3 < x → kaV x = nI (x - 3) := by decide
      exact key x hx h0
    rw [up x (f + 3) i (by omega) (by omega), ka, e1 (x - 3) (by omega) (by omega) f (i + 1) (by omega)]
  rw [un k b hk hb]
  have cl : f_X3_isOrIsUnder (nI k) (nI b) V = some ((if nI b = 0 then 1 else if nI k = nI b then 1 else if nI k ≤ 3 then 0 else if nI k - 3 = nI b then 1 else 0), V) := by
    show f_X3_isOrIsUnder_L4 200 (nI b) (nI k) (nI 0) V = _
    by_cases k0 : k = 0
    · subst k0
      rw [e0 198 0 (by decide)]
      have key : ∀ b, b < 6 → (if nI 0 = nI b then (1 : Int32) else 0) = (if nI b = 0 then 1 else if nI 0 = nI b then 1 else if nI 0 ≤ 3 then 0 else if nI 0 - 3 = nI b then 1 else 0) := by decide
      rw [← key b hb]
      by_cases g : nI 0 = nI b
      · rw [if_pos g, if_pos g]
      · rw [if_neg g, if_neg g]
    · by_cases k4 : k < 4
      · rw [e1 k k4 (by omega) 197 0 (by decide)]
        have key : ∀ k, k < 4 → ∀ b, b < 6 → (if nI k = nI b then (1 : Int32) else if nI 0 = nI b then 1 else 0) = (if nI b = 0 then 1 else if nI k = nI b then 1 else if nI k ≤ 3 then 0 else if nI k - 3 = nI b then 1 else 0) := by decide
        rw [← key k k4 b hb]
        by_cases g : nI k = nI b
        · rw [if_pos g, if_pos g]
        · rw [if_neg g, if_neg g]
          by_cases g : nI 0 = nI b
          · rw [if_pos g, if_pos g]
          · rw [if_neg g, if_neg g]
      · rw [e2 k hk (by omega) 196 0 (by decide)]
        have key : ∀ k, k < 6 → 3 < k → ∀ b, b < 6 → (if nI k = nI b then (1 : Int32) else if nI (k - 3) = nI b then 1 else if nI 0 = nI b then 1 else 0) = (if nI b = 0 then 1 else if nI k = nI b then 1 else if nI k ≤ 3 then 0 else if nI k - 3 = nI b then 1 else 0) := by decide
        rw [← key k hk (by omega) b hb]
        by_cases g : nI k = nI b
        · rw [if_pos g, if_pos g]
        · rw [if_neg g, if_neg g]
          by_cases g : nI (k - 3) = nI b
          · rw [if_pos g, if_pos g]
          · rw [if_neg g, if_neg g]
            by_cases g : nI 0 = nI b
            · rw [if_pos g, if_pos g]
            · rw [if_neg g, if_neg g]
  refine ⟨_, ?_, cl, rfl⟩
  have key : ∀ k, k < 6 → ∀ b, b < 6 → (if nI b = 0 then (1 : Int32) else if nI k = nI b then 1 else if nI k ≤ 3 then 0 else if nI k - 3 = nI b then 1 else 0) = 0 ∨ (if nI b = 0 then (1 : Int32) else if nI k = nI b then 1 else if nI k ≤ 3 then 0 else if nI k - 3 = nI b then 1 else 0) = 1 := by decide
  exact key k hk b hb
theorem op_as {VC VM : VV} (h : Rel VC VM) (a b : Int32) : Both (f_X3_as a b VC) (f_X4_as a b VM) := by
  obtain ⟨n, R, hw, hf, hz, eC, eM, -, -⟩ := h.at
  have hR : Rel (pR 0 VC R) (mR VM R) := by rw [eC, eM]; exact h
  have h8 := hw.1
  unfold f_X3_as f_X4_as
  rw [← eC, ← eM]
  rcases rng a n (by omega) with ha | ⟨w, hwn, rfl⟩
  · simp only [m_isW_n VM h8 hw.2.1 ha, k_has_n 0 VC hw.2.1 ha, k_find0, m_find0, Option.bind_some, if_true, if_false, one0, eq_self, bV, itt]
    exact fd_both hR _ 0
  · have hw8 : w < 8 := by omega
    simp only [m_isW_y VM h8 hw.2.1 hwn, k_hasT 0 VC hw.2.1 hwn h8, Option.bind_some, if_true, if_false, one0, eq_self, bV, itt]
    rcases rng b 6 (by decide) with hb | ⟨k, hk, rfl⟩
    · simp only [m_isKind_n hb, k_isKind_n hb, k_find0, m_find0, Option.bind_some, if_true, if_false, one0, eq_self, bV, itt]
      exact fd_both hR _ 0
    · simp only [m_isKind_y hk, k_isKind_y hk, Option.bind_some, if_true, if_false, one0, eq_self, bV, itt, inb8 hw8, cl8 hw8, pR_1, m_its0 VM R hw8]
      obtain ⟨q, hq, eq⟩ := (hw.2.2.2 w hwn).1
      obtain ⟨r1, b1, c1, -⟩ := under_ok q hq k hk (pR 0 VC R)
      obtain ⟨r2, -, c2, d2⟩ := under_ok q hq k hk (mR VM R)
      obtain ⟨r3, -, c3, d3⟩ := under_ok q hq k hk (pR 0 VC R)
      have e12 : r1 = r2 := by
        have x1 : ∀ V, (f_X4_isUnder (nI q) (nI k) V) = (f_X4_isUnder (nI q) (nI k) (mR VM R)).map (fun z => (z.1, V)) := by
          intro V
          unfold f_X4_isUnder
          by_cases a1 : nI k = 0
          · rw [if_pos a1, if_pos a1]; rfl
          · rw [if_neg a1, if_neg a1]
            by_cases a2 : nI q = nI k
            · rw [if_pos a2, if_pos a2]; rfl
            · rw [if_neg a2, if_neg a2]
              by_cases a3 : nI q ≤ 3
              · rw [if_pos a3, if_pos a3]; rfl
              · rw [if_neg a3, if_neg a3]
                by_cases a4 : nI q - 3 = nI k
                · rw [if_pos a4, if_pos a4]; rfl
                · rw [if_neg a4, if_neg a4]; rfl
        have x2 := x1 (pR 0 VC R)
        rw [d3, d2] at x2
        have x3 := c1.symm.trans c3
        exact (congrArg Prod.fst (Option.some.inj x3)).trans (congrArg Prod.fst (Option.some.inj x2))
      rw [eq, c1, d2, e12]
      simp only [Option.bind_some, if_true, if_false, one0, eq_self, bV, itt]
      by_cases g : r2 = 0
      · rw [if_pos g, if_pos g]
        simp only [k_find2, m_find2, Option.bind_some, if_true, if_false, one0, eq_self, bV, itt]
        exact fd_both hR _ 2
      · rw [if_neg g, if_neg g]
        simp only [pR_5, m_its4 VM R hw8, Option.bind_some, if_true, if_false, one0, eq_self, bV, itt]
        exact ⟨_, _, _, rfl, rfl, hR⟩
theorem it_keep {α : Type} {φ : Row → α} {f : Row → Row} (hf : ∀ R, φ (f R) = φ R) (n : Nat) (R : Row) : φ (itR f n R) = φ R := itR_ind (P := fun Q => φ Q = φ R) (fun Q h => (hf Q).trans h) n R rfl
theorem itw_keep {α : Type} {φ : Row → α} {f : Nat → Row → Row} (hf : ∀ w R, φ (f w R) = φ R) (n : Nat) (R : Row) : φ (itW f n R) = φ R := itW_ind (N := n) (P := fun Q => φ Q = φ R) (fun w Q _ h => (hf w Q).trans h) n R (Nat.le_refl n) rfl
theorem two_turn (w : Nat) (R : Row) : turnR w R 2 = R 2 := upd_ne (Ne.symm (sp2 w 3))
theorem two_step (w : Nat) (R : Row) : stepR w R 2 = R 2 := by
  unfold stepR
  by_cases h : tow (R (sp w 1)) (R (sp w 3)) < 0
  · rw [if_pos h, two_turn]
  · rw [if_neg h, upd_ne (Ne.symm (sp2 w 1))]
theorem two_go (w : Nat) (R : Row) : goR w R 2 = R 2 := by
  unfold goR
  rw [it_keep (φ := fun Q => Q 2) (two_step w), it_keep (φ := fun Q => Q 2) (two_turn w)]
theorem two_bring (w : Nat) (R : Row) : bringR w R 2 = R 2 := by
  unfold bringR
  by_cases h : R (sp w 5) = -1
  · rw [if_pos h]
  · rw [if_neg h, upd_ne (Ne.symm (sp2 _ 1))]
theorem two_all (w : Nat) (R : Row) : allR w R 2 = R 2 := by
  unfold allR
  by_cases h : R (sp w 5) = -1 ∨ ¬ R (sp w 5) < nI w
  · rw [if_pos h, two_bring, two_go]
  · rw [if_neg h]
theorem two_lift (w : Nat) (R : Row) : liftR w R 2 = R 2 := by
  unfold liftR
  by_cases h : R (sp w 1) = R 3
  · rw [if_pos h]
  · rw [if_neg h, upd_ne (Ne.symm (sp2 _ 6)), upd_ne (Ne.symm (sp2 _ 5))]
theorem two_keep (w o : Nat) (R : Row) : keepR w o R 2 = R 2 := by
  unfold keepR
  rw [upd_ne (Ne.symm (sp2 _ 6)), upd_ne (Ne.symm (sp2 _ 6)), upd_ne (Ne.symm (sp2 _ 5)), upd_ne (Ne.symm (sp2 _ 5))]
theorem two_col (n w : Nat) (R : Row) : colR n w R 2 = R 2 := by
  unfold colR
  by_cases h : R (sp w 5) = -1
  · rw [if_pos h]
    by_cases g : nxt R n w < n
    · rw [if_pos g, two_keep]
    · rw [if_neg g]
      by_cases b : bail R w = true
      · rw [if_pos b, two_keep]
      · rw [if_neg b]
  · rw [if_neg h]
theorem two_hour (n : Nat) (R : Row) : hourR n R 2 = R 2 := by
  unfold hourR
  by_cases h : fogB R = true
  · rw [if_pos h, upd_ne (by decide), itw_keep (φ := fun Q => Q 2) (two_col n), itw_keep (φ := fun Q => Q 2) two_all]
  · rw [if_neg h, upd_ne (by decide), itw_keep (φ := fun Q => Q 2) two_all, itw_keep (φ := fun Q => Q 2) two_lift]
theorem FogOk.on {R : Row} (h : FogOk R) {n : Nat} (k : Nat) : FogOk (onR n k R) := by
  obtain ⟨f, h1, h2⟩ := h
  exact ⟨f, h1, by unfold onR; rw [it_keep (φ := fun Q => Q 2) (two_hour n)]; exact h2⟩
theorem op_hours {VC VM : VV} (h : Rel VC VM) (a : Int32) : Both (f_X3_hours a VC) (f_X4_hours a VM) := by
  obtain ⟨n, R, hw, hf, hz, eC, eM, -, -⟩ := h.at
  have hR : Rel (pR 0 VC R) (mR VM R) := by rw [eC, eM]; exact h
  have h8 := hw.1
  unfold f_X3_hours f_X4_hours
  rw [← eC, ← eM]
  by_cases h1 : a < 1
  · rw [if_pos h1, m_inN a 1 60 (by decide) (by decide) _ (Or.inl h1)]
    simp only [k_find0, m_find0, Option.bind_some, if_true, if_false, one0, eq_self, bV, itt]
    exact fd_both hR _ 0
  · rw [if_neg h1]
    rcases rng a 61 (by decide) with ha | ⟨k, hk, rfl⟩
    · have h0 : ¬ a < 0 := fun z => h1 (Int32.lt_trans z (by decide))
      have h2 := lt_of_le_succ (N := 60) (by decide) (ha.resolve_left h0)
      rw [m_inN a 1 60 (by decide) (by decide) _ (Or.inr h2), if_neg (show ¬ a ≤ (60 : Int32) from Int32.not_le.mpr h2)]
      simp only [k_find0, m_find0, Option.bind_some, if_true, if_false, one0, eq_self, bV, itt]
      exact fd_both hR _ 0
    · rw [m_inY (nI k) 1 60 (by decide) (by decide) _ h1 (show ¬ nI 60 < nI k from nI_nlt (by omega) (by decide)), if_pos (show nI k ≤ (60 : Int32) from nI_le (b := 60) (by omega) (by decide))]
      obtain ⟨t, ht, et⟩ := hw.2.2.1
      simp only [Option.bind_some, if_true, if_false, one0, eq_self, bV, itt, inb1, tn1, mR_1, pR_t, et]
      rw [show (99999 : Int32) - nI k = nI (99999 - k) from pk_sub (a := 99999) (by omega), nI_add]
      by_cases g : t + k ≤ 99999
      · rw [if_pos (nI_le (by omega) (by omega)), if_pos (show nI (t + k) ≤ (99999 : Int32) from nI_le (b := 99999) g (by decide))]
        have hw' : Wf n t R := ⟨hw.1, hw.2.1, ⟨t, Nat.le_refl t, et⟩, hw.2.2.2⟩
        obtain ⟨o1, o2⟩ := on_ok hw' hz k
        simp only [k_pass 0 VC hw hz (show k < 199 by omega), m_hoursGo VM hw hz (show k < 199 by omega), k_keptSet 0 VC o1.1 o1.2.1, m_thoseKept VM o1.1 o1.2.1, Option.bind_some, if_true, if_false, one0, eq_self, bV, itt]
        exact ⟨_, _, _, rfl, rfl, h.row (o1.wide g) (hf.on k) o2⟩
      · rw [if_neg (nI_ge (by omega) (by omega)), if_neg (show ¬ nI (t + k) ≤ (99999 : Int32) from nI_ge (a := 99999) (by omega) (by omega))]
        simp only [k_find4, m_find4, Option.bind_some, if_true, if_false, one0, eq_self, bV, itt]
        exact fd_both hR _ 4
theorem m_laysR (VM : VV) (R : Row) (hz : Z60 R) (h4 : Z60 (VM.1 4)) : f_X4_laysAside (mR VM R) = some (mR (sR VM 4 R) R) := by
  rw [m_laysAside (mR VM R) (by rw [mR_1]; exact hz) (by rw [mR_ne _ _ (by decide)]; exact h4), mR_1]
  congr 1
  apply vv_ext
  · intro c k
    by_cases h1 : c = 1
    · subst h1; rw [sR_ne _ _ (by decide), mR_1, mR_1]
    · rw [mR_ne _ _ h1]
      by_cases h4 : c = 4
      · subst h4; rw [sR_eq, sR_eq]
      · rw [sR_ne _ _ h4, sR_ne _ _ h4, mR_ne _ _ h1]
  · rfl
theorem m_takesR (VM : VV) (R Q : Row) (a : Int32) (hz : Z60 R) (hq : Z60 Q) : f_X4_takesBack a (mR (sR VM 4 R) Q) = some (a, mR (sR VM 4 R) R) := by
  have e : (mR (sR VM 4 R) Q).1 4 = R := by rw [mR_ne _ _ (by decide), sR_eq]
  rw [m_takesBack _ a (by rw [e]; exact hz) (by rw [mR_1]; exact hq), e, ← mR_sR, mR_mR]
theorem k_trialR (VC : VV) (R : Row) (hz : Z60 R) (h1 : Z60 (rowC 1 VC)) : f_X0_takeFrom 1 0 (pR 0 VC R) = some (pR 1 (pR 0 VC R) R) := by
  rw [k_takeFrom (by decide) _ (by rw [rowC_pR]; exact hz) (by rw [rowC_pR_ne (by decide)]; exact h1), rowC_pR]
theorem Rel.both {VC VM : VV} {R : Row} (h : Rel (pR 0 VC R) (mR VM R)) {Q : Row} (hq : Z60 Q) (hz : Z60 R) : Rel (pR 1 (pR 0 VC R) Q) (mR (sR VM 4 R) R) := by
  have e : mR (sR VM 4 R) R = sR (mR VM R) 4 R := by
    apply vv_ext
    · intro c k
      by_cases h1 : c = 1
      · subst h1; rw [sR_ne _ _ (by decide), mR_1, mR_1]
      · rw [mR_ne _ _ h1]
        by_cases h4 : c = 4
        · subst h4; rw [sR_eq, sR_eq]
        · rw [sR_ne _ _ h4, sR_ne _ _ h4, mR_ne _ _ h1]
    · rfl
  rw [e]
  exact (h.trial hq).aside (Or.inr rfl) hz
theorem op_on {VC VM : VV} (h : Rel VC VM) (a b c : Int32) : Both (f_X3_on a b c VC) (f_X4_on a b c VM) := by
  obtain ⟨n, R, hw, hf, hz, eC, eM, -, -⟩ := h.at
  have hR : Rel (pR 0 VC R) (mR VM R) := by rw [eC, eM]; exact h
  have z4 : Z60 (VM.1 4) := h.2.1.2.2.1
  have zt : Z60 (rowC 1 VC) := h.2.1.2.2.2.1
  have h8 := hw.1
  unfold f_X3_on f_X4_on
  rw [← eC, ← eM]
  rcases rng a n (by omega) with ha | ⟨w, hwn, rfl⟩
  · simp only [m_isW_n VM h8 hw.2.1 ha, k_has_n 0 VC hw.2.1 ha, k_find0, m_find0, Option.bind_some, if_true, if_false, one0, eq_self, bV, itt]
    exact fd_both hR _ 0
  · have hw8 : w < 8 := by omega
    simp only [m_isW_y VM h8 hw.2.1 hwn, k_hasT 0 VC hw.2.1 hwn h8, Option.bind_some, if_true, if_false, one0, eq_self, bV, itt]
    rcases rng b 61 (by decide) with hb | ⟨k, hk, rfl⟩
    · rw [m_inN b 0 60 (by decide) (by decide) _ (hb.imp id (lt_of_le_succ (N := 60) (by decide)))]
      simp only [m_find0, k_find0, Option.bind_some, if_true, if_false, one0, eq_self, bV, itt]
      by_cases h0 : b < 0
      · rw [if_pos h0]; exact fd_both hR _ 0
      · rw [if_neg h0, if_pos (show (60 : Int32) < b from lt_of_le_succ (N := 60) (by decide) (hb.resolve_left h0))]; exact fd_both hR _ 0
    · rw [m_inY (nI k) 0 60 (by decide) (by decide) _ (nI_pos (by omega)) (show ¬ nI 60 < nI k from nI_nlt (by omega) (by decide)), if_neg (nI_pos (by omega)), if_neg (show ¬ (60 : Int32) < nI k from nI_nlt (a := 60) (by omega) (by decide))]
      simp only [Option.bind_some, if_true, if_false, one0, eq_self, bV, itt]
      rcases rng c 3 (by decide) with hc | ⟨i, hi, rfl⟩
      · rw [m_inN c 0 2 (by decide) (by decide) _ (hc.imp id (lt_of_le_succ (N := 2) (by decide)))]
        simp only [m_find0, k_find0, Option.bind_some, if_true, if_false, one0, eq_self, bV, itt]
        by_cases h0 : c < 0
        · rw [if_pos h0]; exact fd_both hR _ 0
        · rw [if_neg h0, if_neg (show ¬ c ≤ (2 : Int32) from Int32.not_le.mpr (lt_of_le_succ (N := 2) (by decide) (hc.resolve_left h0)))]; exact fd_both hR _ 0
      · rw [m_inY (nI i) 0 2 (by decide) (by decide) _ (nI_pos (by omega)) (show ¬ nI 2 < nI i from nI_nlt (by omega) (by decide)), if_neg (nI_pos (by omega)), if_pos (show nI i ≤ (2 : Int32) from nI_le (b := 2) (by omega) (by decide))]
        obtain ⟨o1, o2⟩ := on_ok hw hz k
        simp only [Option.bind_some, if_true, if_false, one0, eq_self, bV, itt, m_laysR VM R hz z4, k_trialR VC R hz zt, m_hoursGo _ hw hz (show k < 199 by omega), k_pass 1 _ hw hz (show k < 199 by omega), inb8 hw8, cl8 hw8, pR_2', pR_6, pR_7, m_its1 _ _ hw8, m_its5 _ _ hw8, m_its6 _ _ hw8, m_takesR VM R _ _ hz o2]
        have hB := hR.both o2 hz
        rcases (show i = 0 ∨ i = 1 ∨ i = 2 by omega) with rfl | rfl | rfl
        · rw [if_pos (show nI 0 = (0 : Int32) from rfl), if_pos (show nI 0 = (0 : Int32) from rfl)]
          exact ⟨_, _, _, rfl, rfl, hB⟩
        · rw [if_neg (show ¬ nI 1 = (0 : Int32) by decide), if_neg (show ¬ nI 1 = (0 : Int32) by decide), if_pos (show nI 1 = (1 : Int32) from rfl), if_pos (show nI 1 = (1 : Int32) from rfl)]
          exact ⟨_, _, _, rfl, rfl, hB⟩
        · rw [if_neg (show ¬ nI 2 = (0 : Int32) by decide), if_neg (show ¬ nI 2 = (0 : Int32) by decide), if_neg (show ¬ nI 2 = (1 : Int32) by decide), if_neg (show ¬ nI 2 = (1 : Int32) by decide)]
          exact ⟨_, _, _, rfl, rfl, hB⟩
