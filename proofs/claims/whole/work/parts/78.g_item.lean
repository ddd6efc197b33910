/-! ===== PURE: an item, and all of them ===== -/
theorem opt_bid2 {α β : Type} (x : Option (α × β)) : (x.bind fun q => some (q.1, q.2)) = x := by
  cases x with
  | none => rfl
  | some a => rfl
theorem firstOf (P : Nat → Prop) : ∀ N, (∃ k, k < N ∧ P k ∧ ∀ j, j < k → ¬ P j) ∨ ∀ j, j < N → ¬ P j := by
  intro N
  induction N with
  | zero => exact Or.inr (fun j hj => absurd hj (by omega))
  | succ N ih =>
    rcases ih with ⟨k, h1, h2, h3⟩ | h
    · exact Or.inl ⟨k, by omega, h2, h3⟩
    · by_cases q : P N
      · exact Or.inl ⟨N, by omega, q, h⟩
      · refine Or.inr (fun j hj => ?_)
        by_cases e : j = N
        · rw [e]; exact q
        · exact h j (by omega)
theorem item_sim {B : Nat → Nat} {L : Nat} {VC0 VM0 : VV} {st n : Nat} {R : Row} {VC VM : VV} (h : PG B L VC0 VM0 st n R VC VM) : Sim B L VC0 VM0 (st + 1) (f_X2_takeItem 1 VC) (f_X4_item VM) := by
  have h' := h
  obtain ⟨hC, hM, hw, hfog, hz⟩ := h
  have hst := hC.1.2.2.1
  obtain ⟨x, hx, hxw⟩ := m_word hM.1 hM.2.2.2
  have w6 : lg_cmp x 6631 = 0 ↔ wIs B L 6 st := hxw 6 (by decide)
  have w7 : lg_cmp x 3544114 = 0 ↔ wIs B L 7 st := hxw 7 (by decide)
  have w8 : lg_cmp x 23937287397 = 0 ↔ wIs B L 8 st := hxw 8 (by decide)
  unfold f_X2_takeItem f_X4_item
  rcases firstOf (fun k => wIs B L k st) 6 with ⟨k, hk, k1, k2⟩ | hn
  · rw [k_kind_y hC.1 hk k1 k2, (m_kind hM.1 hM.2.2.2).1 k hk k1 k2, Option.bind_some, Option.bind_some]
    dsimp only
    rw [hx, Option.bind_some]
    dsimp only
    rw [if_neg (nI_pos (show k < 2 ^ 31 by omega)), if_neg (nI_pos (show k < 2 ^ 31 by omega)), if_neg (nI_pos (show k < 2 ^ 31 by omega)), opt_bid, ite_self, opt_bid2]
    exact walker_sim h' hk (wIs_lt k1)
  · rw [k_kind_n hC.1 hn, (m_kind hM.1 hM.2.2.2).2 hn, Option.bind_some, Option.bind_some]
    dsimp only
    rw [hx, Option.bind_some]
    dsimp only
    rw [if_pos (show (-1 : Int32) < 0 by decide), if_pos (show (-1 : Int32) < 0 by decide), if_pos (show (-1 : Int32) < 0 by decide)]
    by_cases q6 : wIs B L 6 st
    · obtain ⟨VC1, x1, hC1, -⟩ := hC.word_y (s := 6) (by decide) q6
      obtain ⟨VM1, y1, hM1, -⟩ := hM.must1
      have z1 := tkX_lt (B := B) (wIs_lt q6)
      rw [x1, Option.bind_some, if_pos (w6.mpr q6)]
      dsimp only
      rw [if_neg (show ¬ (1 : Int32) = 0 by decide), opt_bid, opt_bid2]
      unfold f_X4_fogItem
      rw [y1, Option.bind_some]
      exact (fog_sim ⟨hC1, hM1, hw, hfog, hz⟩ 1).le (by omega)
    · rw [hC.word_n (s := 6) (by decide) q6, Option.bind_some, if_neg (mt w6.mp q6)]
      dsimp only
      rw [if_pos (show (0 : Int32) = 0 from rfl)]
      by_cases q7 : wIs B L 7 st
      · obtain ⟨VC1, x1, hC1, -⟩ := hC.word_y (s := 7) (by decide) q7
        obtain ⟨VM1, y1, hM1, -⟩ := hM.must1
        have z1 := tkX_lt (B := B) (wIs_lt q7)
        rw [x1, Option.bind_some, if_pos (w7.mpr q7)]
        dsimp only
        rw [if_neg (show ¬ (1 : Int32) = 0 by decide), opt_bid, opt_bid2]
        unfold f_X4_fogItem
        rw [y1, Option.bind_some]
        exact (fog_sim ⟨hC1, hM1, hw, hfog, hz⟩ 0).le (by omega)
      · rw [hC.word_n (s := 7) (by decide) q7, Option.bind_some, if_neg (mt w7.mp q7)]
        dsimp only
        rw [if_pos (show (0 : Int32) = 0 from rfl)]
        by_cases q8 : wIs B L 8 st
        · obtain ⟨VC1, x1, hC1, -⟩ := hC.word_y (s := 8) (by decide) q8
          obtain ⟨VM1, y1, hM1, -⟩ := hM.must1
          have z1 := tkX_lt (B := B) (wIs_lt q8)
          rw [x1, Option.bind_some, if_pos (w8.mpr q8), y1, Option.bind_some]
          dsimp only
          rw [if_neg (show ¬ (1 : Int32) = 0 by decide)]
          exact (vil_sim ⟨hC1, hM1, hw, hfog, hz⟩).le (by omega)
        · obtain ⟨VM1, y1, hM1⟩ := hM.must0
          rw [hC.word_n (s := 8) (by decide) q8, Option.bind_some, if_neg (mt w8.mp q8), y1, Option.bind_some, hM1.bad_num, Option.bind_some, hM1.2.2.2, if_neg (show ¬ (1 : Int32) = 0 by decide), inb3, itt, itt, tn3, wI_same, bV_e]
          dsimp only
          rw [if_pos (show (0 : Int32) = 0 from rfl)]
          exact Or.inl ⟨_, _, _, rfl, rfl, R, R, hC, hM1, hz, hz⟩
theorem m1_le : ∀ st, st < 121 → (-1 : Int32) - nI st ≤ 0 := by decide +kernel
/-- behind all items: well, or at fault -/
def MD (VC0 VM0 : VV) (R0 : Row) (r : Int32) (VC VM : VV) : Prop := FrC VC0 VC ∧ VM.2 = VM0.2 ∧ (∀ c, 2 ≤ c → VM.1 c = VM0.1 c) ∧ (∀ k, k < 9 → VM.1 0 k = VM0.1 0 k) ∧ VM.1 0 9 = 0 ∧ Z60 (rowC 1 VC) ∧ ((¬ r ≤ 0 ∧ rowC 1 VC = VM.1 1 ∧ ∃ n, Wf n 99999 (VM.1 1) ∧ FogOk (VM.1 1)) ∨ (r ≤ 0 ∧ VM.1 1 = R0))
theorem end_back {B : Nat → Nat} {L : Nat} {VM0 : VV} {st : Nat} {R R0 : Row} {W : VV} (h : GM B L VM0 st R 1 W) (hz : Z60 R) (h3 : VM0.1 3 = R0) (hz0 : Z60 R0) (x : Int32) : ((f_X4_putsBack W).bind fun V12 => (bV (wI V12 0 9 0) fun V13 => (if (V13.1 0 13) = 0 then some (x, V13) else some (((-1) - (V13.1 0 10)), V13)))) = some ((-1) - nI st, wI (sR W 1 R0) 0 9 0) := by
  have e3 : W.1 3 = R0 := (h.2.2.1.2.1 3 (by decide)).trans h3
  rw [m_putsBack W (by rw [e3]; exact hz0) (by rw [h.2.1]; exact hz), e3, Option.bind_some, bV_e]
  have e13 : (wI (sR W 1 R0) 0 9 0).1 0 13 = 1 := by rw [wI_eq, upd_ne (by decide), sR_ne _ _ (by decide)]; exact h.2.2.2
  have e10 : (wI (sR W 1 R0) 0 9 0).1 0 10 = nI st := by rw [wI_eq, upd_ne (by decide), sR_ne _ _ (by decide)]; exact h.1.2.2.2.2.2.1
  rw [e13, e10, if_neg (show ¬ (1 : Int32) = 0 by decide)]
theorem MD.bad {B : Nat → Nat} {L : Nat} {VC0 VM0 : VV} {st : Nat} {R R' R0 : Row} {VC W : VV} (hC : GC B L VC0 st R VC) (hM : GM B L VM0 st R' 1 W) (hz : Z60 R) : MD VC0 VM0 R0 ((-1) - nI st) VC (wI (sR W 1 R0) 0 9 0) := by
  have hst : st < 121 := by have := hC.1.1; have := hC.1.2.2.1; omega
  refine ⟨hC.2.2, hM.2.2.1.1, fun c hc => ?_, fun k hk => ?_, by rw [wI_eq, upd_eq], by rw [hC.2.1]; exact hz, Or.inr ⟨m1_le st hst, by rw [wI_ne (by decide), sR_eq]⟩⟩
  · rw [wI_ne (by omega), sR_ne _ _ (by omega)]; exact hM.2.2.1.2.1 c hc
  · rw [wI_eq, upd_ne (by omega), sR_ne _ _ (by decide)]; exact hM.2.2.1.2.2 k (by omega)
theorem GM.fail {B : Nat → Nat} {L : Nat} {V0 : VV} {st : Nat} {R : Row} {V : VV} (h : GM B L V0 st R 0 V) : GM B L V0 st R 1 (wI V 0 13 1) :=
  ⟨h.1.w (Or.inr rfl) _, by rw [wI_ne (by decide)]; exact h.2.1, h.2.2.1.wr (by decide) _, by rw [wI_eq, upd_eq]⟩
theorem tkC_59 {b : Nat} : tkC b = 3 ↔ b = 59 := by
  constructor
  · intro h
    unfold tkC at h
    by_cases h1 : 97 ≤ b ∧ b ≤ 122
    · rw [if_pos h1] at h; omega
    · rw [if_neg h1] at h
      by_cases h2 : 48 ≤ b ∧ b ≤ 57
      · rw [if_pos h2] at h; omega
      · rw [if_neg h2] at h
        by_cases h3 : b = 59
        · exact h3
        · rw [if_neg h3] at h; omega
  · intro h; rw [h]; decide
theorem tell_sim {B : Nat → Nat} {L : Nat} {VC0 VM0 : VV} {R0 : Row} (h3 : VM0.1 3 = R0) (hz0 : Z60 R0) : ∀ fc fm it st n (R : Row) (VC VM : VV), L - st < fc → L - st < fm → 1 ≤ it → 2 * it ≤ st + 2 → PG B L VC0 VM0 st n R VC VM → ∃ r VC' VM', f_X2_tellItems_L11 1 fc (nI it) VC = some (r, VC') ∧ ((f_X4_item VM).bind fun V5 => f_X4_moor_L24 fm (nI it) V5) = some (r, VM') ∧ MD VC0 VM0 R0 r VC' VM' := by
  intro fc
  induction fc with
  | zero => intro fm it st n R VC VM h1; omega
  | succ f ih =>
    intro fm it st n R VC VM h1 h2 hi1 hi2 hP
    obtain ⟨g, rfl⟩ : ∃ g, fm = g + 1 := ⟨fm - 1, by omega⟩
    have hst := hP.1.1.2.2.1
    have hL := hP.1.1.1
    have hb := hP.1.1.2.1
    rw [f_X2_tellItems_L11, if_neg (show ¬ (120 : Int32) < nI it from nI_nlt (a := 120) (by omega) (by decide))]
    rcases item_sim hP with ⟨s1, VC1, VM1, x1, y1, R1, R1', hC1, hM1, hz1, hz1'⟩ | ⟨s1, n1, R1, VC1, VM1, x1, y1, ⟨hC1, hM1, hw1, hf1, hz1⟩, hs1⟩
    · rw [x1, y1, Option.bind_some, Option.bind_some]
      dsimp only
      have e : wI VM1 0 13 1 = VM1 := by
        have := wI_same VM1 0 13
        rw [hM1.2.2.2] at this
        exact this
      rw [if_pos (show (0 : Int32) = 0 from rfl), f_X4_moor_L24, hM1.2.2.2, if_neg (show ¬ (1 : Int32) = 0 by decide), if_neg (show ¬ (1 : Int32) = 0 by decide), e, bV_e, hM1.2.2.2, if_neg (show ¬ (1 : Int32) = 0 by decide), end_back hM1 hz1' h3 hz0, hC1.1.2.2.2.2.2.1]
      exact ⟨_, _, _, rfl, rfl, MD.bad hC1 hM1 hz1⟩
    · have hst1 := hC1.1.2.2.1
      have hT := hC1.1.2.2.2.2.2.2.2.1
      have h9 := hM1.1.2.2.2.1
      have h10 := hM1.1.2.2.2.2.2.1
      have hTl := tkT_le B L s1
      rw [x1, y1, Option.bind_some, Option.bind_some]
      dsimp only
      rw [if_neg (show ¬ (1 : Int32) = 0 by decide), hT, f_X4_moor_L24, hM1.2.2.2, if_pos (show (0 : Int32) = 0 from rfl), h10]
      by_cases hl : s1 < L
      · have hT2 : tkT B L s1 = tkC (B s1) := by unfold tkT; rw [if_pos hl]
        have hT3 := tkC_le (B s1)
        have n0 : ¬ nI (tkT B L s1) = 0 := nI_ne0 (by omega) (by omega)
        rw [if_neg n0, m_byteY h9 hL hM1.1.2.2.2.2.1 hl, Option.bind_some]
        dsimp only
        by_cases q : B s1 = 59
        · obtain ⟨VC2, x2, hC2, -⟩ := hC1.look
          obtain ⟨VM2, y2, hM2, -⟩ := hM1.must1
          have z1 := tkX_lt (B := B) hl
          have z2 := tkX_le (B := B) hst1
          rw [if_pos (show nI (tkT B L s1) = 3 by rw [hT2, tkC_59.mpr q]; rfl), if_pos (show nI (B s1) = 59 by rw [q]; rfl), x2, Option.bind_some, y2, Option.bind_some, nI_succ']
          exact ih g (it + 1) (tkX B L s1) n1 R1 VC2 VM2 (by omega) (by omega) (by omega) (by omega) ⟨hC2, hM2, hw1, hf1, hz1⟩
        · have n3 : ¬ nI (tkT B L s1) = (3 : Int32) := fun z => q (tkC_59.mp (hT2.symm.trans ((nI_eq (b := 3) (by omega) (by decide)).mp z)))
          have n59 : ¬ nI (B s1) = (59 : Int32) := fun z => q ((nI_eq (b := 59) (by have := hb s1; omega) (by decide)).mp z)
          have hM2 := hM1.fail
          rw [if_neg n3, if_neg n59, hM1.2.2.2, if_pos (show (0 : Int32) = 0 from rfl), h9, h10, if_neg (nI_ge hl (by omega)), bV_e, hM2.2.2.2, if_neg (show ¬ (1 : Int32) = 0 by decide), end_back hM2 hz1 h3 hz0, hC1.1.2.2.2.2.2.1]
          exact ⟨_, _, _, rfl, rfl, MD.bad hC1 hM2 hz1⟩
      · have hT2 : tkT B L s1 = 0 := by unfold tkT; rw [if_neg hl]
        have e : wI VM1 0 13 0 = VM1 := by
          have := wI_same VM1 0 13
          rw [hM1.2.2.2] at this
          exact this
        have e13 : (wI VM1 0 9 0).1 0 13 = 0 := by rw [wI_eq, upd_ne (by decide)]; exact hM1.2.2.2
        rw [if_pos (show nI (tkT B L s1) = 0 by rw [hT2]; rfl), m_byteN h9 (show L ≤ s1 by omega) (by omega), Option.bind_some]
        dsimp only
        rw [if_neg (show ¬ (-1 : Int32) = 59 by decide), hM1.2.2.2, if_pos (show (0 : Int32) = 0 from rfl), h9, h10, if_pos (nI_le (show L ≤ s1 by omega) (by omega)), e, bV_e, hM1.2.2.2, if_pos (show (0 : Int32) = 0 from rfl), bV_e, e13, if_pos (show (0 : Int32) = 0 from rfl)]
        refine ⟨_, _, _, rfl, rfl, hC1.2.2, hM1.2.2.1.1, fun c hc => ?_, fun k hk => ?_, by rw [wI_eq, upd_eq], by rw [hC1.2.1]; exact hz1, Or.inl ⟨nI_nle (by omega) (by omega), ?_, n1, ?_, ?_⟩⟩
        · rw [wI_ne (by omega)]; exact hM1.2.2.1.2.1 c hc
        · rw [wI_eq, upd_ne (by omega)]; exact hM1.2.2.1.2.2 k (by omega)
        · rw [wI_ne (by decide), hM1.2.1, hC1.2.1]
        · rw [wI_ne (by decide), hM1.2.1]; exact hw1
        · rw [wI_ne (by decide), hM1.2.1]; exact hf1
