/-! ===== PURE: calls, fifth: the soonest ===== -/
theorem own2_rel {VC VM : VV} {R : Row} (h : Rel (pR 0 VC R) (mR VM R)) (b s : Int32) : Rel (pR 0 VC R) (mR (own b s VM) R) := by
  have e : mR (own b s VM) R = own b s (mR VM R) := by rw [mR_sR, mR_sR, own_sR b s _ (show 0 ≠ 1 by decide)]
  rw [e]
  exact (h.own (Or.inl rfl) b).own (Or.inr (Or.inl rfl)) s
theorem m_begins (VM : VV) (R : Row) (m : Nat) : f_X4_begins (nI m) (mR VM R) = some (mR (own (-1) (nI (m + 1)) VM) R) := by
  have e : mR (own (-1) (nI (m + 1)) VM) R = own (-1) (nI (m + 1)) (mR VM R) := by rw [mR_sR, mR_sR, own_sR _ _ _ (show 0 ≠ 1 by decide)]
  unfold f_X4_begins
  rw [e, nI_succ']
  rfl
theorem soon_both {VC VM : VV} {n : Nat} {R : Row} (hz : Z60 R) (hR : Rel (pR 0 VC R) (mR VM R)) {c o' : Int32} {w e N m : Nat} {o : Int32} {f f' : Nat → Row} (hev : evC e o = (0, o')) (he : e < 4) (ho : e = 0 → o ≠ -2) (hw : w < 8) (hm : m < 140) (hN : N < 150) (hfW : ∀ x, x < N → Wf n 99999 (f x)) (hfZ : ∀ x, x < N → Z60 (f x)) (hfW' : ∀ x, x < N → Wf n 99999 (f' x)) (hfZ' : ∀ x, x < N → Z60 (f' x)) (hff : ∀ x, x < N → fst (hrP n e w o (f x)) (m + 1) 0 = fst (hrP n e w o (f' x)) (m + 1) 0) (hsup : ∀ x Q, x < N → Z60 Q → f_X3_suppose c (nI x) (nI w) (pR 1 (pR 0 VC R) Q) = some (pR 1 (pR 0 VC R) (f x))) {F : Nat → Int32 → VV → Option (Int32 × VV)} (hF0 : ∀ fuel V, F (fuel + 1) (nI N) V = ((f_X4_bestOrNone V).bind fun q6 => some (q6.1, q6.2))) (hF1 : ∀ fuel x W, x < N → F (fuel + 1) (nI x) (mR W R) = ((f_X4_firstSo (nI e) (nI w) o (nI m) (mR W (f' x))).bind fun q10 => ((f_X4_takesBack q10.1 q10.2).bind fun q11 => ((f_X4_tries (nI x) q11.1 q11.2).bind fun V12 => F fuel (nI (x + 1)) V12)))) : Both ((f_X3_soonestChoice c (nI N) (nI m) (nI w) o' (pR 0 VC R)).bind fun q3 => ((f_X3_orNone q3.1 q3.2).bind fun q4 => some (q4.1, q4.2))) ((f_X4_begins (nI m) (mR VM R)).bind fun V3 => ((f_X4_laysAside V3).bind fun V4 => F 200 (nI 0) V4)) := by
  have z4 : Z60 (VM.1 4) := by have := hR.2.1.2.2.1; rw [mR_ne _ _ (by decide)] at this; exact this
  have zt : Z60 (rowC 1 (pR 0 VC R)) := hR.2.1.2.2.2.1
  have eS : ∀ k, k ≤ N → soonR (fun y => fst (hrP n e w o (f y)) (m + 1) 0) m k = soonR (fun y => fst (hrP n e w o (f' y)) (m + 1) 0) m k := by
    intro k
    induction k with
    | zero => intro _; rfl
    | succ k ih =>
      intro hk
      show (if fst (hrP n e w o (f k)) (m + 1) 0 < (soonR (fun y => fst (hrP n e w o (f y)) (m + 1) 0) m k).2 then (nI k, fst (hrP n e w o (f k)) (m + 1) 0) else soonR (fun y => fst (hrP n e w o (f y)) (m + 1) 0) m k) = (if fst (hrP n e w o (f' k)) (m + 1) 0 < (soonR (fun y => fst (hrP n e w o (f' y)) (m + 1) 0) m k).2 then (nI k, fst (hrP n e w o (f' k)) (m + 1) 0) else soonR (fun y => fst (hrP n e w o (f' y)) (m + 1) 0) m k)
      rw [ih (by omega), hff k (by omega)]
  obtain ⟨Q1, q1, k1⟩ := k_soon (n := n) (pR 0 VC R) (a := 0) hev he ho hw hm hN hfW hfZ hsup N 0 200 (rowC 1 (pR 0 VC R)) (by omega) (by omega) zt
  rw [pR_row] at k1
  have k1 : f_X3_soonestChoice_L9 200 c (nI N) (nI w) o' (-1) (nI (m + 1) - 1) (nI 0) (pR 0 VC R) = _ := k1
  rw [nI_pred] at k1
  have k1 : f_X3_soonestChoice c (nI N) (nI m) (nI w) o' (pR 0 VC R) = _ := k1
  have k2 := m_soon (n := n) VM hz (o := o) he hw hm hfW' hfZ' hF0 hF1 N 0 200 (by omega) (by omega)
  have k2 : F 200 (nI 0) (mR (sR (own (-1) (nI (m + 1)) VM) 4 R) R) = _ := k2
  have z4' : Z60 ((own (-1) (nI (m + 1)) VM).1 4) := by unfold own; rw [wI_ne (by decide), wI_ne (by decide)]; exact z4
  rw [k1, m_begins, Option.bind_some, Option.bind_some, m_laysR _ R hz z4', Option.bind_some, k2, eS N (Nat.le_refl N)]
  have hB := (own2_rel hR (soonR (fun y => fst (hrP n e w o (f' y)) (m + 1) 0) m N).1 (nI (soonR (fun y => fst (hrP n e w o (f' y)) (m + 1) 0) m N).2)).both q1 hz
  have h6 : (mR (sR (own (soonR (fun y => fst (hrP n e w o (f' y)) (m + 1) 0) m N).1 (nI (soonR (fun y => fst (hrP n e w o (f' y)) (m + 1) 0) m N).2) VM) 4 R) R).1 0 6 = (soonR (fun y => fst (hrP n e w o (f' y)) (m + 1) 0) m N).1 := by rw [own_mr, own_6]
  unfold f_X3_orNone f_X4_bestOrNone
  dsimp only
  rw [h6]
  rcases soon_b (fun y => fst (hrP n e w o (f' y)) (m + 1) 0) m N with eb | ⟨j, hj, eb⟩
  · rw [if_pos (by rw [eb]; decide), if_neg (by rw [eb]; decide), k_find3, m_find3]
    exact fd_both hB _ 3
  · rw [if_neg (by rw [eb]; exact nI_pos (by omega)), if_pos (by rw [eb]; exact nI_pos' (by omega))]
    exact ⟨_, _, _, rfl, rfl, hB⟩
theorem op_heading {VC VM : VV} (h : Rel VC VM) (a b : Int32) : Both (f_X3_heading a b VC) (f_X4_heading a b VM) := by
  obtain ⟨n, R, hw, hf, hz, eC, eM, -, -⟩ := h.at
  have hR : Rel (pR 0 VC R) (mR VM R) := by rw [eC, eM]; exact h
  have h8 := hw.1
  unfold f_X3_heading f_X4_heading
  rw [← eC, ← eM]
  rcases two_ok VC VM h8 hw.2.1 a b with ⟨e1, e2⟩ | ⟨w, o, hwn, hon, hne, rfl, rfl, e1, e2⟩
  · rw [e1, e2]
    simp only [k_find0, m_find0, Option.bind_some, if_true, if_false, one0, eq_self, bV, itt]
    exact fd_both hR _ 0
  · have hw8 : w < 8 := by omega
    rw [e1, e2, Option.bind_some, Option.bind_some]
    dsimp only
    rw [if_neg (show ¬ (1 : Int32) = 0 by decide), if_neg (show ¬ (1 : Int32) = 0 by decide)]
    refine soon_both (n := n) (c := 0) (N := 4) (m := 100) (e := 0) (o := nI o) (f := fun x => upd R (sp w 3) (nI x)) (f' := fun x => upd R (sp w 3) (nI x)) (F := fun fuel x V => f_X4_heading_L28 fuel (nI w) (nI o) x V) hz hR rfl (by decide) (fun _ => ne_m2 (by omega)) hw8 (by decide) (by decide) (fun x hx => hw.head hx) (fun x hx => hz.up (sp_lt hw8 (by decide))) (fun x hx => hw.head hx) (fun x hx => hz.up (sp_lt hw8 (by decide))) (fun x hx => rfl) ?_ ?_ ?_
    · intro x Q hx hq
      unfold f_X3_suppose
      rw [k_again VC R hz hq, Option.bind_some, if_pos (show (0 : Int32) = 0 from rfl), inb8 hw8, itt, cl8 hw8, pR_w4]
      rfl
    · intro fuel V
      show f_X4_heading_L28 (fuel + 1) _ _ _ _ = _
      rw [f_X4_heading_L28, if_pos (by decide)]
    · intro fuel x W hx
      show f_X4_heading_L28 (fuel + 1) _ _ _ _ = _
      rw [f_X4_heading_L28, if_neg (show ¬ (4 : Int32) ≤ nI x from nI_ge hx (by decide)), m_spot3, Option.bind_some]
      dsimp only
      rw [isp hw8 (show 3 < 7 by decide), itt, csp hw8 (show 3 < 7 by decide), mR_w, nI_succ']
      rfl
theorem op_hour {VC VM : VV} (h : Rel VC VM) (a b : Int32) : Both (f_X3_hour a b VC) (f_X4_hour a b VM) := by
  obtain ⟨n, R, hw, hf, hz, eC, eM, -, -⟩ := h.at
  have hR : Rel (pR 0 VC R) (mR VM R) := by rw [eC, eM]; exact h
  have h8 := hw.1
  unfold f_X3_hour f_X4_hour
  rw [← eC, ← eM]
  rcases two_ok VC VM h8 hw.2.1 a b with ⟨e1, e2⟩ | ⟨w, o, hwn, hon, hne, rfl, rfl, e1, e2⟩
  · rw [e1, e2]
    simp only [k_find0, m_find0, Option.bind_some, if_true, if_false, one0, eq_self, bV, itt]
    exact fd_both hR _ 0
  · have hw8 : w < 8 := by omega
    rw [e1, e2, Option.bind_some, Option.bind_some]
    dsimp only
    rw [if_neg (show ¬ (1 : Int32) = 0 by decide), if_neg (show ¬ (1 : Int32) = 0 by decide)]
    refine soon_both (n := n) (c := 3) (N := 24) (m := 60) (e := 0) (o := nI o) (f := fun x => upd R 2 (1 <<< (nI x &&& 31))) (f' := fun x => upd R 2 (1 <<< (nI x &&& 31))) (F := fun fuel x V => f_X4_hour_L28 fuel (nI w) (nI o) x V) hz hR rfl (by decide) (fun _ => ne_m2 (by omega)) hw8 (by decide) (by decide) (fun x hx => hw.fog) (fun x hx => hz.up (by decide)) (fun x hx => hw.fog) (fun x hx => hz.up (by decide)) (fun x hx => rfl) ?_ ?_ ?_
    · intro x Q hx hq
      unfold f_X3_suppose
      rw [k_again VC R hz hq, Option.bind_some, if_neg (show ¬ (3 : Int32) = 0 by decide), if_neg (show ¬ (3 : Int32) = 1 by decide), if_neg (show ¬ (3 : Int32) = 2 by decide), if_pos (show (3 : Int32) = 3 from rfl), pR_wf]
      rfl
    · intro fuel V
      show f_X4_hour_L28 (fuel + 1) _ _ _ _ = _
      rw [f_X4_hour_L28, if_pos (by decide)]
    · intro fuel x W hx
      show f_X4_hour_L28 (fuel + 1) _ _ _ _ = _
      rw [f_X4_hour_L28, if_neg (show ¬ (24 : Int32) ≤ nI x from nI_ge hx (by decide)), inb2, itt, tn2, mR_w, nI_succ']
      rfl
theorem op_begin {VC VM : VV} (h : Rel VC VM) (a b : Int32) : Both (f_X3_begin a b VC) (f_X4_begin a b VM) := by
  obtain ⟨n, R, hw, hf, hz, eC, eM, -, -⟩ := h.at
  have hR : Rel (pR 0 VC R) (mR VM R) := by rw [eC, eM]; exact h
  have h8 := hw.1
  unfold f_X3_begin f_X4_begin
  rw [← eC, ← eM]
  rcases two_ok VC VM h8 hw.2.1 a b with ⟨e1, e2⟩ | ⟨w, o, hwn, hon, hne, rfl, rfl, e1, e2⟩
  · rw [e1, e2]
    simp only [k_find0, m_find0, Option.bind_some, if_true, if_false, one0, eq_self, bV, itt]
    exact fd_both hR _ 0
  · have hw8 : w < 8 := by omega
    rw [e1, e2, Option.bind_some, Option.bind_some]
    dsimp only
    rw [if_neg (show ¬ (1 : Int32) = 0 by decide), if_neg (show ¬ (1 : Int32) = 0 by decide)]
    have eR : ∀ x, x < 36 → Wf n 99999 (upd (if R (sp w 5) = -1 then R else relR w R) (sp w 1) (nI x)) ∧ Z60 (upd (if R (sp w 5) = -1 then R else relR w R) (sp w 1) (nI x)) := by
      intro x hx
      by_cases g : R (sp w 5) = -1
      · rw [if_pos g]; exact ⟨hw.cell hx, hz.cl hw8⟩
      · rw [if_neg g]; exact ⟨hw.rel.cell hx, (hz.rel hw hwn g).cl hw8⟩
    have eC' : ∀ x, x < 36 → Wf n 99999 (upd (if R (sp w 5) = -1 then upd (upd R (sp w 5) (-1)) (sp w 6) (-1) else relR w R) (sp w 1) (nI x)) ∧ Z60 (upd (if R (sp w 5) = -1 then upd (upd R (sp w 5) (-1)) (sp w 6) (-1) else relR w R) (sp w 1) (nI x)) := by
      intro x hx
      by_cases g : R (sp w 5) = -1
      · rw [if_pos g]; exact ⟨((hw.wth (Or.inl rfl)).as).cell hx, ((hz.up (sp_lt hw8 (by decide))).up (sp_lt hw8 (by decide))).cl hw8⟩
      · rw [if_neg g]; exact ⟨hw.rel.cell hx, (hz.rel hw hwn g).cl hw8⟩
    refine soon_both (n := n) (c := 1) (N := 36) (m := 30) (e := 0) (o := nI o) (f := fun x => upd (if R (sp w 5) = -1 then upd (upd R (sp w 5) (-1)) (sp w 6) (-1) else relR w R) (sp w 1) (nI x)) (f' := fun x => upd (if R (sp w 5) = -1 then R else relR w R) (sp w 1) (nI x)) (F := fun fuel x V => f_X4_begin_L28 fuel (nI w) (nI o) x V) hz hR rfl (by decide) (fun _ => ne_m2 (by omega)) hw8 (by decide) (by decide) (fun x hx => (eC' x hx).1) (fun x hx => (eC' x hx).2) (fun x hx => (eR x hx).1) (fun x hx => (eR x hx).2) (fun x hx => ?_) ?_ ?_ ?_
    · apply En.first
      by_cases g : R (sp w 5) = -1
      · rw [if_pos g, if_pos g]
        refine En.wr ?_ _ _
        intro p hp
        rw [upd_ne (hp w)]
        by_cases q : p = sp w 5
        · rw [q, upd_eq, g]
        · rw [upd_ne q]
      · rw [if_neg g, if_neg g]
        intro p hp
        rfl
    · intro x Q hx hq
      unfold f_X3_suppose
      rw [k_again VC R hz hq, Option.bind_some, if_neg (show ¬ (1 : Int32) = 0 by decide), if_pos (show (1 : Int32) = 1 from rfl)]
      by_cases g : R (sp w 5) = -1
      · rw [k_rel0 1 _ hw8 g, Option.bind_some, inb8 hw8, itt, cl8 hw8, pR_w2, if_pos g]
        rfl
      · rw [k_rel 1 _ hw hwn g, Option.bind_some, inb8 hw8, itt, cl8 hw8, pR_w2, if_neg g]
        rfl
    · intro fuel V
      show f_X4_begin_L28 (fuel + 1) _ _ _ _ = _
      rw [f_X4_begin_L28, if_pos (by decide)]
    · intro fuel x W hx
      show f_X4_begin_L28 (fuel + 1) _ _ _ _ = _
      rw [f_X4_begin_L28, if_neg (show ¬ (36 : Int32) ≤ nI x from nI_ge hx (by decide)), m_isFree W R hw8, Option.bind_some]
      dsimp only
      by_cases g : R (sp w 5) = -1
      · rw [if_pos g, if_neg (show ¬ (1 : Int32) = 0 by decide), if_pos g, m_spot1, Option.bind_some]
        dsimp only
        rw [isp hw8 (show 1 < 7 by decide), itt, csp hw8 (show 1 < 7 by decide), mR_w, nI_succ']
        rfl
      · rw [if_neg g, if_pos (show (0 : Int32) = 0 from rfl), if_neg g, m_lets W hw hwn g, Option.bind_some, m_spot1, Option.bind_some]
        dsimp only
        rw [isp hw8 (show 1 < 7 by decide), itt, csp hw8 (show 1 < 7 by decide), mR_w, nI_succ']
        rfl
theorem op_kind {VC VM : VV} (h : Rel VC VM) (a : Int32) : Both (f_X3_kind a VC) (f_X4_kind a VM) := by
  obtain ⟨n, R, hw, hf, hz, eC, eM, -, -⟩ := h.at
  have hR : Rel (pR 0 VC R) (mR VM R) := by rw [eC, eM]; exact h
  have h8 := hw.1
  unfold f_X3_kind f_X4_kind
  rw [← eC, ← eM]
  rcases rng a n (by omega) with ha | ⟨w, hwn, rfl⟩
  · simp only [m_isW_n VM h8 hw.2.1 ha, k_has_n 0 VC hw.2.1 ha, k_find0, m_find0, Option.bind_some, if_true, if_false, one0, eq_self, bV, itt]
    exact fd_both hR _ 0
  · have hw8 : w < 8 := by omega
    rw [m_isW_y VM h8 hw.2.1 hwn, k_hasT 0 VC hw.2.1 hwn h8, Option.bind_some, Option.bind_some]
    dsimp only
    rw [if_neg (show ¬ (1 : Int32) = 0 by decide), if_neg (show ¬ (1 : Int32) = 0 by decide)]
    refine soon_both (n := n) (c := 2) (N := 6) (m := 100) (e := 1) (o := 0) (f := fun x => upd R (sp w 0) (nI x)) (f' := fun x => upd R (sp w 0) (nI x)) (F := fun fuel x V => f_X4_kind_L27 fuel (nI w) x V) hz hR rfl (by decide) (by decide) hw8 (by decide) (by decide) (fun x hx => hw.kind hx) (fun x hx => hz.up (sp_lt hw8 (by decide))) (fun x hx => hw.kind hx) (fun x hx => hz.up (sp_lt hw8 (by decide))) (fun x hx => rfl) ?_ ?_ ?_
    · intro x Q hx hq
      unfold f_X3_suppose
      rw [k_again VC R hz hq, Option.bind_some, if_neg (show ¬ (2 : Int32) = 0 by decide), if_neg (show ¬ (2 : Int32) = 1 by decide), if_pos (show (2 : Int32) = 2 from rfl), inb8 hw8, itt, cl8 hw8, pR_w1]
      rfl
    · intro fuel V
      show f_X4_kind_L27 (fuel + 1) _ _ _ = _
      rw [f_X4_kind_L27, if_pos (by decide)]
    · intro fuel x W hx
      show f_X4_kind_L27 (fuel + 1) _ _ _ = _
      rw [f_X4_kind_L27, if_neg (show ¬ (5 : Int32) < nI x from nI_nlt (a := 5) (by omega) (by decide)), m_spot0, Option.bind_some]
      dsimp only
      rw [isp hw8 (show 0 < 7 by decide), itt, csp hw8 (show 0 < 7 by decide), mR_w, nI_succ']
      rfl
