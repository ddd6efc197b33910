/-! ===== PURE: calls, tenth: copy ===== -/
def mvd (V : VV) (b m : Nat) : VV := (V.1, fun c => if c = 10 then (fun j => if j < m then V.2 9 (b + j) else V.2 10 j) else V.2 c)
def putJ (V : VV) (b m : Nat) : VV := (V.1, fun c => if c = 9 then (fun j => if b ≤ j ∧ j < b + m then V.2 10 (j - b) else V.2 9 j) else V.2 c)
theorem mvd_10 (V : VV) (b m j : Nat) : (mvd V b m).2 10 j = if j < m then V.2 9 (b + j) else V.2 10 j := by
  show (if 10 = 10 then (fun j => if j < m then V.2 9 (b + j) else V.2 10 j) else V.2 10) j = _
  rw [if_pos rfl]
theorem mvd_o (V : VV) (b m : Nat) {c : Nat} (h : c ≠ 10) : (mvd V b m).2 c = V.2 c := by
  show (if c = 10 then _ else V.2 c) = V.2 c
  rw [if_neg h]
theorem mvd_9 (V : VV) (b m : Nat) : (mvd V b m).2 9 = V.2 9 := mvd_o V b m (by decide)
theorem putJ_9 (V : VV) (b m j : Nat) : (putJ V b m).2 9 j = if b ≤ j ∧ j < b + m then V.2 10 (j - b) else V.2 9 j := by
  show (if 9 = 9 then (fun j => if b ≤ j ∧ j < b + m then V.2 10 (j - b) else V.2 9 j) else V.2 9) j = _
  rw [if_pos rfl]
theorem putJ_o (V : VV) (b m : Nat) {c : Nat} (h : c ≠ 9) : (putJ V b m).2 c = V.2 c := by
  show (if c = 9 then _ else V.2 c) = V.2 c
  rw [if_neg h]
theorem mvd_0 (V : VV) (b : Nat) : mvd V b 0 = V := by
  refine vv_ext (fun _ _ => rfl) ?_
  funext c j
  by_cases h : c = 10
  · subst h; rw [mvd_10, if_neg (by omega)]
  · rw [mvd_o _ _ _ h]
theorem putJ_0 (V : VV) (b : Nat) : putJ V b 0 = V := by
  refine vv_ext (fun _ _ => rfl) ?_
  funext c j
  by_cases h : c = 9
  · subst h; rw [putJ_9, if_neg (by omega)]
  · rw [putJ_o _ _ _ h]
theorem mvd_s (V : VV) (b m : Nat) : wJ (mvd V b m) 10 m ((mvd V b m).2 9 (b + m)) = mvd V b (m + 1) := by
  refine vv_ext (fun _ _ => rfl) ?_
  funext c j
  by_cases h : c = 10
  · subst h
    rw [wJ_eq, mvd_10, mvd_9]
    by_cases g : j = m
    · subst g; rw [updL_eq, if_pos (by omega)]
    · rw [updL_ne g, mvd_10]
      by_cases g2 : j < m
      · rw [if_pos g2, if_pos (by omega)]
      · rw [if_neg g2, if_neg (by omega)]
  · rw [wJ_ne h, mvd_o _ _ _ h, mvd_o _ _ _ h]
theorem putJ_s (V : VV) (b m : Nat) : wJ (putJ V b m) 9 (b + m) ((putJ V b m).2 10 m) = putJ V b (m + 1) := by
  refine vv_ext (fun _ _ => rfl) ?_
  funext c j
  by_cases h : c = 9
  · subst h
    rw [wJ_eq, putJ_9, putJ_o _ _ _ (show 10 ≠ 9 by decide)]
    by_cases g : j = b + m
    · subst g; rw [updL_eq, if_pos (by omega), show b + m - b = m by omega]
    · rw [updL_ne g, putJ_9]
      by_cases g2 : b ≤ j ∧ j < b + m
      · rw [if_pos g2, if_pos (by omega)]
      · rw [if_neg g2, if_neg (by omega)]
  · rw [wJ_ne h, putJ_o _ _ _ h, putJ_o _ _ _ h]
theorem j160 {s f k : Nat} (hs : s < 4) (h : f + k < 40) : inb ((40 * nI s + nI f) + nI k) 160 = true ∧ Int32.toNatClampNeg ((40 * nI s + nI f) + nI k) = 40 * s + f + k := by
  have e : ((40 : Int32) * nI s + nI f) + nI k = nI (40 * s + f + k) := by
    rw [show (40 : Int32) = nI 40 from rfl, pk_mul, nI_add, nI_add]
  rw [e]
  exact ⟨inb_nI (by omega) (by decide), cl_nI (by omega)⟩
theorem m_put {t g m : Nat} (ht : t < 4) (hg : g + m ≤ 40) (V : VV) : f_X4_copy_L157 200 (nI t) (nI g) (nI m) 0 V = some (nI m, putJ V (40 * t + g) m) := by
  have key := loopF (F := fun fuel i => f_X4_copy_L157 fuel (nI t) (nI g) (nI m) (nI i) (putJ V (40 * t + g) i)) (n := m) (res := some (nI m, putJ V (40 * t + g) m)) ?_ ?_ m 0 200 (by omega) (by omega)
  · rw [putJ_0] at key
    exact key
  · intro fuel
    show f_X4_copy_L157 (fuel + 1) _ _ _ _ _ = _
    rw [f_X4_copy_L157, if_pos (nI_le (Nat.le_refl m) (by omega))]
  · intro fuel i hi
    show f_X4_copy_L157 (fuel + 1) _ _ _ _ _ = f_X4_copy_L157 fuel _ _ _ _ _
    rw [f_X4_copy_L157, if_neg (nI_ge hi (by omega)), inb40 (show i < 40 by omega), itt, (j160 ht (show g + i < 40 by omega)).1, itt, (j160 ht (show g + i < 40 by omega)).2, cl_nI (show i < 2 ^ 31 by omega), bV_e, putJ_s, nI_succ']
theorem m_mvd {s f t g m : Nat} (hs : s < 4) (hf : f + m ≤ 40) (ht : t < 4) (hg : g + m ≤ 40) (V : VV) : f_X4_copy_L120 200 (nI s) (nI f) (nI t) (nI g) (nI m) 0 V = some (nI m, putJ (mvd V (40 * s + f) m) (40 * t + g) m) := by
  have key := loopF (F := fun fuel i => f_X4_copy_L120 fuel (nI s) (nI f) (nI t) (nI g) (nI m) (nI i) (mvd V (40 * s + f) i)) (n := m) (res := some (nI m, putJ (mvd V (40 * s + f) m) (40 * t + g) m)) ?_ ?_ m 0 200 (by omega) (by omega)
  · rw [mvd_0] at key
    exact key
  · intro fuel
    show f_X4_copy_L120 (fuel + 1) _ _ _ _ _ _ _ = _
    rw [f_X4_copy_L120, if_pos (nI_le (Nat.le_refl m) (by omega)), m_put ht hg]
  · intro fuel i hi
    show f_X4_copy_L120 (fuel + 1) _ _ _ _ _ _ _ = f_X4_copy_L120 fuel _ _ _ _ _ _ _
    rw [f_X4_copy_L120, if_neg (nI_ge hi (by omega)), inb40 (show i < 40 by omega), itt, (j160 hs (show f + i < 40 by omega)).1, itt, (j160 hs (show f + i < 40 by omega)).2, cl_nI (show i < 2 ^ 31 by omega), bV_e, mvd_s, nI_succ']
theorem Rel.cp {VC VM : VV} (h : Rel VC VM) {s f t g m : Nat} (hs : s < 4) (hf : f + m ≤ 40) (ht : t < 4) (hg : g + m ≤ 40) : Rel (cpJ VC (29 + 2 * t + 1) (29 + 2 * s + 1) f g m) (putJ (mvd VM (40 * s + f) m) (40 * t + g) m) := by
  refine h.rs (fun c _ => rfl) (fun c _ => rfl) (fun q hq => ?_)
  obtain ⟨s1, s2, s3, s4, s5⟩ := h.2.2.2.2.2 q hq
  refine ⟨s1, s2, s3, s4, fun i hi => ?_⟩
  obtain ⟨-, -, -, -, r5⟩ := h.2.2.2.2.2 s hs
  rw [putJ_9, mvd_9]
  by_cases e : q = t
  · subst e
    rw [cpJ_eq]
    by_cases gi : g ≤ i ∧ i < g + m
    · rw [pk_cpy_in gi.1 gi.2, if_pos (by omega), mvd_10, if_pos (by omega), show 40 * q + i - (40 * q + g) = i - g by omega, r5 (f + (i - g)) (by omega), Nat.add_assoc]
    · rw [pk_cpy_out (by omega), if_neg (by omega)]
      exact s5 i hi
  · rw [cpJ_ne (by omega), if_neg (by omega)]
    exact s5 i hi
theorem sub_neg40 {z f : Nat} (hz : z ≤ 40) (h : z < f) (hf : f < 2 ^ 31) : nI z - nI f < 0 := by
  rw [Int32.lt_iff_toInt_lt, Int32.toInt_sub, nI_toInt (by omega), nI_toInt hf, show (0 : Int32).toInt = 0 from rfl, Int.bmod_eq_of_le (by omega) (by omega)]
  omega
/-- so many from one on, of z -/
theorem run_tri {z : Nat} (hz : z ≤ 40) (a b : Int32) : (∃ f m : Nat, a = nI f ∧ b = nI m ∧ f + m ≤ z) ∨ (a < 0 ∨ b < 0 ∨ (nI z - a < b ∧ ¬ b ≤ nI z - a ∧ (nI z < b ∨ nI z - b < a))) := by
  by_cases ha : a < 0
  · exact Or.inr (Or.inl ha)
  by_cases hb : b < 0
  · exact Or.inr (Or.inr (Or.inl hb))
  obtain ⟨f, hf, rfl⟩ := nI_of ha
  obtain ⟨m, hm, rfl⟩ := nI_of hb
  by_cases h : f + m ≤ z
  · exact Or.inl ⟨f, m, rfl, rfl, h⟩
  · refine Or.inr (Or.inr (Or.inr ?_))
    have h1 : nI z - nI f < nI m := by
      by_cases hfz : f ≤ z
      · rw [pk_sub hfz]; exact nI_lt (by omega) (by omega)
      · exact Int32.lt_of_lt_of_le (sub_neg40 hz (by omega) hf) (nI_pos' hm)
    refine ⟨h1, Int32.not_le.mpr h1, ?_⟩
    by_cases hmz : z < m
    · exact Or.inl (nI_lt hmz hm)
    · refine Or.inr ?_
      rw [pk_sub (by omega)]
      exact nI_lt (by omega) hf
theorem k_run_y {k : Nat} {V : VV} {z f m : Nat} (hz : z ≤ 40) (hs : V.1 (29 + 2 * k) 1 = nI z) (h : f + m ≤ z) : f_X1_hasRun k (nI f) (nI m) V = some (1, V) := by
  unfold f_X1_hasRun
  rw [if_neg (nI_pos (by omega)), if_neg (nI_pos (by omega)), hs, if_neg (nI_nlt (by omega) (by omega)), pk_sub (by omega), if_neg (nI_nlt (by omega) (by omega))]
theorem k_run_n {k : Nat} {V : VV} {z : Nat} {a b : Int32} (hs : V.1 (29 + 2 * k) 1 = nI z) (h : a < 0 ∨ b < 0 ∨ (nI z - a < b ∧ ¬ b ≤ nI z - a ∧ (nI z < b ∨ nI z - b < a))) : f_X1_hasRun k a b V = some (0, V) := by
  unfold f_X1_hasRun
  rw [hs]
  by_cases h1 : a < 0
  · rw [if_pos h1]
  · rw [if_neg h1]
    by_cases h2 : b < 0
    · rw [if_pos h2]
    · rw [if_neg h2]
      rcases h with h | h | ⟨-, -, h⟩
      · exact absurd h h1
      · exact absurd h h2
      · by_cases h3 : nI z < b
        · rw [if_pos h3]
        · rw [if_neg h3, if_pos (h.resolve_left h3)]
theorem if5 {α : Type} {p q r s t : Prop} [Decidable p] [Decidable q] [Decidable r] [Decidable s] [Decidable t] {F G : α} (h : p ∨ q ∨ r ∨ s ∨ ¬ t) : (if p then F else if q then F else if r then F else if s then F else if t then G else F) = F := by
  by_cases hp : p
  · rw [if_pos hp]
  · rw [if_neg hp]
    by_cases hq : q
    · rw [if_pos hq]
    · rw [if_neg hq]
      by_cases hr : r
      · rw [if_pos hr]
      · rw [if_neg hr]
        by_cases hs : s
        · rw [if_pos hs]
        · rw [if_neg hs, if_neg (((((h.resolve_left hp).resolve_left hq).resolve_left hr).resolve_left hs))]
theorem op_copy {VC VM : VV} (h : Rel VC VM) (a1 a2 a3 a4 a5 : Int32) : Both (f_X3_copy a1 a2 a3 a4 a5 VC) (f_X4_copy a1 a2 a3 a4 a5 VM) := by
  unfold f_X3_copy f_X4_copy
  simp only [k_find0, m_find0, k_find2, m_find2, k_find5, m_find5, Option.bind_some]
  rcases rng a1 4 (by decide) with ha | ⟨s, hs, rfl⟩
  · rw [k_sheet_n ha, m_one_n ha, Option.bind_some, Option.bind_some]
    dsimp only
    rw [if_pos (show (-1 : Int32) < 0 by decide), if_pos (show (0 : Int32) = 0 from rfl)]
    rcases rng a3 4 (by decide) with hb | ⟨t, ht, rfl⟩
    · rw [k_sheet_n hb, Option.bind_some, ite_self]
      exact fd_both h _ 0
    · rw [k_sheet_y ht, Option.bind_some, ite_self]
      exact fd_both h _ 0
  · rw [k_sheet_y hs, m_one_y hs, Option.bind_some, Option.bind_some]
    dsimp only
    rw [if_neg (nI_pos (show s < 2 ^ 31 by omega)), if_neg (show ¬ (1 : Int32) = 0 by decide)]
    rcases rng a3 4 (by decide) with hb | ⟨t, ht, rfl⟩
    · rw [k_sheet_n hb, m_one_n hb, Option.bind_some, Option.bind_some]
      dsimp only
      rw [if_pos (show (-1 : Int32) < 0 by decide), if_pos (show (0 : Int32) = 0 from rfl)]
      exact fd_both h _ 0
    · rw [k_sheet_y ht, m_one_y ht, Option.bind_some, Option.bind_some]
      dsimp only
      obtain ⟨s1, s2, s3, ⟨z, hz, s4⟩, s5⟩ := h.2.2.2.2.2 s hs
      obtain ⟨t1, t2, t3, ⟨y, hy, t4⟩, t5⟩ := h.2.2.2.2.2 t ht
      rw [if_neg (nI_pos (show t < 2 ^ 31 by omega)), if_neg (show ¬ (1 : Int32) = 0 by decide), cl_nI (show s < 2 ^ 31 by omega), cl_nI (show t < 2 ^ 31 by omega)]
      simp only [inb4 hs, inb4 ht, if_true]
      rw [k_miss, s1, Option.bind_some]
      dsimp only
      by_cases b1 : VM.1 7 s = 0
      · rw [if_pos b1, if_pos b1, if_neg (show ¬ (1 : Int32) = 0 by decide)]
        exact fd_both h _ 5
      · rw [if_neg b1, if_neg b1, if_pos (show (0 : Int32) = 0 from rfl), k_miss, t1, Option.bind_some]
        dsimp only
        by_cases b2 : VM.1 7 t = 0
        · rw [if_pos b2, if_pos b2, if_neg (show ¬ (1 : Int32) = 0 by decide)]
          exact fd_both h _ 5
        · rw [if_neg b2, if_neg b2, if_pos (show (0 : Int32) = 0 from rfl), s1, t1]
          by_cases b3 : VM.1 7 s = VM.1 7 t
          · rw [if_pos b3, if_pos b3, s4, t4]
            rcases run_tri hz a2 a5 with ⟨f, m, rfl, rfl, hfm⟩ | hn
            · rw [k_run_y hz (s3.trans s4) hfm, Option.bind_some]
              dsimp only
              rw [if_neg (show ¬ (1 : Int32) = 0 by decide)]
              rcases run_tri hy a4 (nI m) with ⟨g, m', rfl, em, hgm⟩ | hn
              · have em2 : m = m' := (nI_eq (by omega) (by omega)).mp em
                subst em2
                rw [k_run_y hy (t3.trans t4) hgm, Option.bind_some]
                dsimp only
                have hcp : cpok (nI f) (nI g) (nI m) 40 40 = true := by
                  unfold cpok
                  rw [decide_eq_false (nI_pos (show f < 2 ^ 31 by omega)), decide_eq_false (nI_pos (show g < 2 ^ 31 by omega)), decide_eq_false (nI_pos (show m < 2 ^ 31 by omega)), cl_nI (show f < 2 ^ 31 by omega), cl_nI (show g < 2 ^ 31 by omega), cl_nI (show m < 2 ^ 31 by omega), decide_eq_true (show f + m ≤ 40 by omega), decide_eq_true (show g + m ≤ 40 by omega)]
                  rfl
                rw [if_neg (show ¬ (1 : Int32) = 0 by decide), hcp, itt, bV_e, cl_nI (show f < 2 ^ 31 by omega), cl_nI (show g < 2 ^ 31 by omega), cl_nI (show m < 2 ^ 31 by omega), if_neg (nI_pos (show f < 2 ^ 31 by omega)), if_neg (nI_pos (show g < 2 ^ 31 by omega)), if_neg (nI_pos (show m < 2 ^ 31 by omega)), pk_sub (show f ≤ z by omega), if_neg (nI_nlt (show m ≤ z - f by omega) (by omega)), pk_sub (show g ≤ y by omega), if_pos (nI_le (show m ≤ y - g by omega) (by omega)), m_mvd hs (by omega) ht (by omega)]
                exact ⟨_, _, _, rfl, rfl, h.cp hs (by omega) ht (by omega)⟩
              · rw [k_run_n (t3.trans t4) hn, Option.bind_some]
                dsimp only
                rw [if_pos (show (0 : Int32) = 0 from rfl), if5 (by rcases hn with q | q | q
                                                                    · exact Or.inr (Or.inl q)
                                                                    · exact Or.inr (Or.inr (Or.inl q))
                                                                    · exact Or.inr (Or.inr (Or.inr (Or.inr q.2.1))))]
                exact fd_both h _ 0
            · rw [k_run_n (s3.trans s4) hn, Option.bind_some]
              dsimp only
              rw [if_pos (show (0 : Int32) = 0 from rfl), if5 (by rcases hn with q | q | q
                                                                  · exact Or.inl q
                                                                  · exact Or.inr (Or.inr (Or.inl q))
                                                                  · exact Or.inr (Or.inr (Or.inr (Or.inl q.1))))]
              exact fd_both h _ 0
          · rw [if_neg b3, if_neg b3]
            exact fd_both h _ 2
