/-! ===== PURE: both readers at a token ===== -/
def FrC (V0 V : VV) : Prop := V.2 = V0.2 ∧ (∀ c, c < 8 ∨ 16 ≤ c → c ≠ 25 → V.1 c = V0.1 c) ∧ V.1 25 0 = V0.1 25 0
def FrM (V0 V : VV) : Prop := V.2 = V0.2 ∧ (∀ c, 2 ≤ c → V.1 c = V0.1 c) ∧ (∀ k, k < 10 → V.1 0 k = V0.1 0 k)
def GC (B : Nat → Nat) (L : Nat) (V0 : VV) (st : Nat) (R : Row) (V : VV) : Prop := KC B L st V ∧ rowC 1 V = R ∧ FrC V0 V
def GM (B : Nat → Nat) (L : Nat) (V0 : VV) (st : Nat) (R : Row) (w : Int32) (V : VV) : Prop := KM B L st V ∧ V.1 1 = R ∧ FrM V0 V ∧ V.1 0 13 = w
theorem rowC_tC (V : VV) (a b c e t : Int32) : rowC 1 (tC V a b c e t) = rowC 1 V := by
  funext p
  unfold rowC
  rw [tC_o _ _ _ _ _ _ (show 8 * 1 ≠ 25 by decide), tC_o _ _ _ _ _ _ (show 8 * 1 + 1 + (p - 4) % 7 ≠ 25 by omega)]
theorem pR_1o (V : VV) (R : Row) {c : Nat} (h : c < 8 ∨ 16 ≤ c) : (pR 1 V R).1 c = V.1 c := by
  funext k
  simp only [pR]
  rw [if_neg (by omega), if_neg (by omega)]
theorem FrC.tC {V0 V : VV} (h : FrC V0 V) (a b c e t : Int32) : FrC V0 (tC V a b c e t) :=
  ⟨h.1, fun x h1 h2 => by rw [tC_o _ _ _ _ _ _ h2]; exact h.2.1 x h1 h2, by rw [tC_0]; exact h.2.2⟩
theorem FrC.row {V0 V : VV} (h : FrC V0 V) (R : Row) : FrC V0 (pR 1 V R) :=
  ⟨h.1, fun x h1 h2 => by rw [pR_1o _ _ h1]; exact h.2.1 x h1 h2, by rw [pR_1o _ _ (by decide)]; exact h.2.2⟩
theorem GC.row {B : Nat → Nat} {L : Nat} {V0 : VV} {st : Nat} {R : Row} {V : VV} (h : GC B L V0 st R V) (R' : Row) : GC B L V0 st R' (pR 1 V R') := by
  obtain ⟨⟨hL, hb, hst, c0, cB, c3, c4, c2, c5⟩, h2, h3⟩ := h
  have e : (pR 1 V R').1 25 = V.1 25 := pR_1o _ _ (by decide)
  have e6 : (pR 1 V R').1 26 = V.1 26 := pR_1o _ _ (by decide)
  exact ⟨⟨hL, hb, hst, by rw [e]; exact c0, by rw [e6]; exact cB, by rw [e]; exact c3, by rw [e]; exact c4, by rw [e]; exact c2, by rw [e]; exact c5⟩, rowC_pR 1 V R', h3.row R'⟩
theorem GC.self {B : Nat → Nat} {L : Nat} {V0 : VV} {st : Nat} {R : Row} {V : VV} (h : GC B L V0 st R V) : pR 1 V R = V := by
  rw [← h.2.1, pR_row]
theorem GC.look {B : Nat → Nat} {L : Nat} {V0 : VV} {st : Nat} {R : Row} {V : VV} (h : GC B L V0 st R V) : ∃ V', f_X2_look V = some V' ∧ GC B L V0 (tkX B L st) R V' ∧ V'.1 25 6 = V.1 25 6 := by
  obtain ⟨⟨hL, hb, hst, c0, cB, c3, c4, c2, c5⟩, h2, h3⟩ := h
  refine ⟨_, k_look c0 hL cB hb (tkE_le hst).2 c4, ⟨⟨hL, hb, (tkX_le hst).2, ?_, fun k => ?_, tC_3 _ _ _ _ _ _, tC_4 _ _ _ _ _ _, tC_2 _ _ _ _ _ _, fun q => ?_⟩, by rw [rowC_tC]; exact h2, h3.tC _ _ _ _ _⟩, tC_6 _ _ _ _ _ _⟩
  · rw [tC_0]; exact c0
  · rw [tC_26]; exact cB k
  · rw [tC_5]
    show tkV B L (tkX B L st) (V.1 25 5) = nI (tkN B L (tkX B L st))
    unfold tkV
    rw [if_pos q]
theorem GC.w6 {B : Nat → Nat} {L : Nat} {V0 : VV} {st : Nat} {R : Row} {V : VV} (h : GC B L V0 st R V) (v : Int32) : GC B L V0 st R (wI V 25 6 v) := by
  obtain ⟨⟨hL, hb, hst, c0, cB, c3, c4, c2, c5⟩, h2, h3⟩ := h
  have e : wI V 25 6 v = tC V (V.1 25 2) (V.1 25 3) (V.1 25 4) (V.1 25 5) v := by
    rw [← tC_w6 V (V.1 25 2) (V.1 25 3) (V.1 25 4) (V.1 25 5) (V.1 25 6), tC_row]
  rw [e]
  refine ⟨⟨hL, hb, hst, by rw [tC_0]; exact c0, fun k => by rw [tC_26]; exact cB k, by rw [tC_3]; exact c3, by rw [tC_4]; exact c4, by rw [tC_2]; exact c2, fun q => by rw [tC_5]; exact c5 q⟩, by rw [rowC_tC]; exact h2, h3.tC _ _ _ _ _⟩
theorem tkNF_le (B : Nat → Nat) : ∀ d p a, a ≤ 1000 → tkNF B d p a ≤ 1000 := by
  intro d
  induction d with
  | zero => intro p a h; exact h
  | succ d ih => intro p a h; unfold tkNF; exact ih _ _ (by omega)
theorem tkN_le (B : Nat → Nat) (L st : Nat) : tkN B L st ≤ 1000 := tkNF_le B _ _ _ (by omega)
/-- a number of some range stands at st -/
def nOk (B : Nat → Nat) (L st lo hi : Nat) : Prop := tkT B L st = 2 ∧ lo ≤ tkN B L st ∧ tkN B L st ≤ hi
theorem GC.num_y {B : Nat → Nat} {L : Nat} {V0 : VV} {st : Nat} {R : Row} {V : VV} (h : GC B L V0 st R V) {a b : Int32} {lo hi : Nat} (ea : a = nI lo) (eb : b = nI hi) (hhi : hi ≤ 999) (ok : nOk B L st lo hi) : ∃ V', f_X2_takeNumber a b V = some (1, V') ∧ GC B L V0 (tkX B L st) R V' ∧ V'.1 25 6 = nI (tkN B L st) := by
  obtain ⟨o1, o2, o3⟩ := ok
  have c2 := h.1.2.2.2.2.2.2.2.1
  have c5 := h.1.2.2.2.2.2.2.2.2 o1
  obtain ⟨V', x1, x2, x3⟩ := (h.w6 (nI (tkN B L st))).look
  refine ⟨V', ?_, x2, by rw [x3, wI_eq, upd_eq]⟩
  unfold f_X2_takeNumber
  rw [c2, o1, if_pos (show nI 2 = (2 : Int32) from rfl), c5, ea, eb, if_neg (nI_nlt o2 (by omega)), if_pos (nI_le o3 (by omega)), bV_e, x1, Option.bind_some]
theorem GC.num_n {B : Nat → Nat} {L : Nat} {V0 : VV} {st : Nat} {R : Row} {V : VV} (h : GC B L V0 st R V) {a b : Int32} {lo hi : Nat} (ea : a = nI lo) (eb : b = nI hi) (hlo : lo ≤ 999) (hhi : hi ≤ 999) (ok : ¬ nOk B L st lo hi) : f_X2_takeNumber a b V = some (0, V) := by
  have c2 := h.1.2.2.2.2.2.2.2.1
  have c5 := h.1.2.2.2.2.2.2.2.2
  have hT := tkT_le B L st
  have hN := tkN_le B L st
  unfold f_X2_takeNumber
  by_cases q : tkT B L st = 2
  · rw [c2, q, if_pos (show nI 2 = (2 : Int32) from rfl), c5 q, ea, eb]
    by_cases q2 : lo ≤ tkN B L st
    · rw [if_neg (nI_nlt q2 (by omega)), if_neg (nI_ge (show hi < tkN B L st from by
        by_cases q3 : tkN B L st ≤ hi
        · exact absurd ⟨q, q2, q3⟩ ok
        · omega) (by omega))]
    · rw [if_pos (nI_lt (show tkN B L st < lo by omega) (by omega))]
  · rw [c2, if_neg (show ¬ nI (tkT B L st) = (2 : Int32) from fun z => q ((nI_eq (b := 2) (by omega) (by decide)).mp z))]
theorem GC.word_y {B : Nat → Nat} {L : Nat} {V0 : VV} {st : Nat} {R : Row} {V : VV} (h : GC B L V0 st R V) {s : Nat} (hs : s < 13) (hw : wIs B L s st) : ∃ V', f_X2_takeWord s V = some (1, V') ∧ GC B L V0 (tkX B L st) R V' ∧ V'.1 25 6 = V.1 25 6 := by
  obtain ⟨V', x1, x2, x3⟩ := h.look
  refine ⟨V', ?_, x2, x3⟩
  unfold f_X2_takeWord
  rw [k_isWord_y h.1 hs hw, Option.bind_some]
  dsimp only
  rw [if_neg (show ¬ (1 : Int32) = 0 by decide), x1, Option.bind_some]
theorem GC.word_n {B : Nat → Nat} {L : Nat} {V0 : VV} {st : Nat} {R : Row} {V : VV} (h : GC B L V0 st R V) {s : Nat} (hs : s < 13) (hw : ¬ wIs B L s st) : f_X2_takeWord s V = some (0, V) := by
  unfold f_X2_takeWord
  rw [k_isWord_n h.1 hs hw, Option.bind_some]
  dsimp only
  rw [if_pos (show (0 : Int32) = 0 from rfl)]
theorem k_nameOf {x : Nat} (hx : x < 6) (V : VV) : f_X2_nameOf (nI x) V = some (nI x, V) := by
  unfold f_X2_nameOf
  have : x = 0 ∨ x = 1 ∨ x = 2 ∨ x = 3 ∨ x = 4 ∨ x = 5 := by omega
  rcases this with rfl | rfl | rfl | rfl | rfl | rfl
  · rw [if_pos (by decide)]; rfl
  · rw [if_neg (by decide), if_pos (by decide)]; rfl
  · rw [if_neg (by decide), if_neg (by decide), if_pos (by decide)]; rfl
  · rw [if_neg (by decide), if_neg (by decide), if_neg (by decide), if_pos (by decide)]; rfl
  · rw [if_neg (by decide), if_neg (by decide), if_neg (by decide), if_neg (by decide), if_pos (by decide)]; rfl
  · rw [if_neg (by decide), if_neg (by decide), if_neg (by decide), if_neg (by decide), if_neg (by decide)]; rfl
theorem k_kind_y {B : Nat → Nat} {L st : Nat} {V : VV} (h : KC B L st V) {k : Nat} (hk : k < 6) (hw : wIs B L k st) (hn : ∀ j, j < k → ¬ wIs B L j st) : f_X2_kindNamed V = some (nI k, V) := by
  have key : ∀ d x fuel, x + d = k → d < fuel → f_X2_kindNamed_L2 fuel (nI x) V = some (nI k, V) := by
    intro d
    induction d with
    | zero =>
      intro x fuel hx hf
      obtain ⟨f, rfl⟩ : ∃ f, fuel = f + 1 := ⟨fuel - 1, by omega⟩
      have : x = k := by omega
      subst this
      rw [f_X2_kindNamed_L2, if_neg (show ¬ (6 : Int32) ≤ nI x from nI_ge (b := 6) hk (by decide)), k_nameOf hk, Option.bind_some]
      dsimp only
      rw [cl_nI (show x < 2 ^ 31 by omega), k_isWord_y h (by omega) hw, Option.bind_some]
      dsimp only
      rw [if_neg (show ¬ (1 : Int32) = 0 by decide)]
    | succ d ih =>
      intro x fuel hx hf
      obtain ⟨f, rfl⟩ : ∃ f, fuel = f + 1 := ⟨fuel - 1, by omega⟩
      rw [f_X2_kindNamed_L2, if_neg (show ¬ (6 : Int32) ≤ nI x from nI_ge (b := 6) (by omega) (by decide)), k_nameOf (by omega), Option.bind_some]
      dsimp only
      rw [cl_nI (show x < 2 ^ 31 by omega), k_isWord_n h (by omega) (hn x (by omega)), Option.bind_some]
      dsimp only
      rw [if_pos (show (0 : Int32) = 0 from rfl), nI_succ']
      exact ih (x + 1) f (by omega) (by omega)
  exact key k 0 200 (by omega) (by omega)
theorem k_kind_n {B : Nat → Nat} {L st : Nat} {V : VV} (h : KC B L st V) (hn : ∀ j, j < 6 → ¬ wIs B L j st) : f_X2_kindNamed V = some (-1, V) := by
  have key : ∀ d x fuel, x + d = 6 → d < fuel → f_X2_kindNamed_L2 fuel (nI x) V = some (-1, V) := by
    intro d
    induction d with
    | zero =>
      intro x fuel hx hf
      obtain ⟨f, rfl⟩ : ∃ f, fuel = f + 1 := ⟨fuel - 1, by omega⟩
      have : x = 6 := by omega
      subst this
      rw [f_X2_kindNamed_L2, if_pos (show (6 : Int32) ≤ nI 6 by decide)]
    | succ d ih =>
      intro x fuel hx hf
      obtain ⟨f, rfl⟩ : ∃ f, fuel = f + 1 := ⟨fuel - 1, by omega⟩
      rw [f_X2_kindNamed_L2, if_neg (show ¬ (6 : Int32) ≤ nI x from nI_ge (b := 6) (by omega) (by decide)), k_nameOf (by omega), Option.bind_some]
      dsimp only
      rw [cl_nI (show x < 2 ^ 31 by omega), k_isWord_n h (by omega) (hn x (by omega)), Option.bind_some]
      dsimp only
      rw [if_pos (show (0 : Int32) = 0 from rfl), nI_succ']
      exact ih (x + 1) f (by omega) (by omega)
  exact key 6 0 200 (by omega) (by omega)
/-! the reference -/
theorem FrM.tM {V0 V : VV} (h : FrM V0 V) (f t v w : Int32) : FrM V0 (tM V f t v w) :=
  ⟨h.1, fun c hc => by rw [tM_o _ _ _ _ _ (by omega)]; exact h.2.1 c hc, fun k hk => by rw [tM_lo _ _ _ _ _ hk]; exact h.2.2 k hk⟩
theorem FrM.wr {V0 V : VV} (h : FrM V0 V) {k : Nat} (hk : 10 ≤ k) (v : Int32) : FrM V0 (wI V 0 k v) :=
  ⟨h.1, fun c hc => by rw [wI_ne (by omega)]; exact h.2.1 c hc, fun q hq => by rw [wI_eq, upd_ne (by omega)]; exact h.2.2 q hq⟩
theorem FrM.row {V0 V : VV} (h : FrM V0 V) (R : Row) : FrM V0 (mR V R) :=
  ⟨h.1, fun c hc => by rw [mR_ne _ _ (by omega)]; exact h.2.1 c hc, fun q hq => by rw [mR_ne _ _ (by decide)]; exact h.2.2 q hq⟩
theorem GM.row {B : Nat → Nat} {L : Nat} {V0 : VV} {st : Nat} {R : Row} {w : Int32} {V : VV} (h : GM B L V0 st R w V) (R' : Row) : GM B L V0 st R' w (mR V R') := by
  obtain ⟨⟨hL, hb, hst, c9, cB, c10, c11⟩, h2, h3, h4⟩ := h
  have e : (mR V R').1 0 = V.1 0 := mR_ne _ _ (by decide)
  have e6 : (mR V R').1 6 = V.1 6 := mR_ne _ _ (by decide)
  exact ⟨⟨hL, hb, hst, by rw [e]; exact c9, by rw [e6]; exact cB, by rw [e]; exact c10, by rw [e]; exact c11⟩, mR_1 V R', h3.row R', by rw [e]; exact h4⟩
theorem GM.self {B : Nat → Nat} {L : Nat} {V0 : VV} {st : Nat} {R : Row} {w : Int32} {V : VV} (h : GM B L V0 st R w V) : mR V R = V := by
  rw [← h.2.1, mR_row]
theorem GM.tk {B : Nat → Nat} {L : Nat} {V0 : VV} {st : Nat} {R : Row} {V : VV} (h : GM B L V0 st R 0 V) (v : Int32) : GM B L V0 (tkX B L st) R 0 (tM V (nI (tkX B L st)) (nI (tkE B L (tkX B L st))) v 0) := by
  obtain ⟨⟨hL, hb, hst, c9, cB, c10, c11⟩, h2, h3, h4⟩ := h
  exact ⟨⟨hL, hb, (tkX_le hst).2, by rw [tM_lo _ _ _ _ _ (by decide)]; exact c9, fun k => by rw [tM_6]; exact cB k, tM_10 _ _ _ _ _, tM_11 _ _ _ _ _⟩, by rw [tM_o _ _ _ _ _ (by decide)]; exact h2, h3.tM _ _ _ _, tM_13 _ _ _ _ _⟩
theorem GM.must1 {B : Nat → Nat} {L : Nat} {V0 : VV} {st : Nat} {R : Row} {V : VV} (h : GM B L V0 st R 0 V) : ∃ V', f_X4_must 1 V = some V' ∧ GM B L V0 (tkX B L st) R 0 V' ∧ V'.1 0 12 = V.1 0 12 :=
  ⟨_, m_must1 h.1 h.2.2.2, h.tk _, tM_12 _ _ _ _ _⟩
theorem GM.must0 {B : Nat → Nat} {L : Nat} {V0 : VV} {st : Nat} {R : Row} {V : VV} (h : GM B L V0 st R 0 V) : ∃ V', f_X4_must 0 V = some V' ∧ GM B L V0 st R 1 V' :=
  ⟨_, m_must0 h.2.2.2, h.1.w (Or.inr rfl) _, by rw [wI_ne (by decide)]; exact h.2.1, h.2.2.1.wr (by decide) _, by rw [wI_eq, upd_eq]⟩
theorem GM.num_y {B : Nat → Nat} {L : Nat} {V0 : VV} {st : Nat} {R : Row} {V : VV} (h : GM B L V0 st R 0 V) {a b : Int32} {lo hi : Nat} (ea : a = nI lo) (eb : b = nI hi) (hlo : lo ≤ 999) (hhi : hi ≤ 999) (ok : nOk B L st lo hi) : ∃ V', f_X4_number a b V = some V' ∧ GM B L V0 (tkX B L st) R 0 V' ∧ V'.1 0 12 = nI (tkN B L st) := by
  subst ea
  subst eb
  exact ⟨_, m_numY h.1 h.2.2.2 hlo hhi ok, h.tk _, tM_12 _ _ _ _ _⟩
theorem GM.num_n {B : Nat → Nat} {L : Nat} {V0 : VV} {st : Nat} {R : Row} {V : VV} (h : GM B L V0 st R 0 V) {a b : Int32} {lo hi : Nat} (ea : a = nI lo) (eb : b = nI hi) (hlo : lo ≤ 999) (hhi : hi ≤ 999) (ok : ¬ nOk B L st lo hi) : ∃ V', f_X4_number a b V = some V' ∧ GM B L V0 st R 1 V' := by
  subst ea
  subst eb
  obtain ⟨v, hv⟩ := m_numN h.1 h.2.2.2 hlo hhi ok
  refine ⟨_, hv, (h.1.w (Or.inl rfl) _).w (Or.inr rfl) _, ?_, (h.2.2.1.wr (by decide) _).wr (by decide) _, by rw [wI_eq, upd_eq]⟩
  rw [wI_ne (by decide), wI_ne (by decide)]
  exact h.2.1
theorem GM.bad_word {B : Nat → Nat} {L : Nat} {V0 : VV} {st : Nat} {R : Row} {V : VV} (h : GM B L V0 st R 1 V) : f_X4_word V = some (0, V) :=
  m_wordN h.1 (fun z => absurd (h.2.2.2.symm.trans z) (by decide))
theorem GM.bad_must {B : Nat → Nat} {L : Nat} {V0 : VV} {st : Nat} {R : Row} {V : VV} (h : GM B L V0 st R 1 V) (a : Int32) : f_X4_must a V = some V := m_mustW h.2.2.2 a
theorem GM.bad_num {B : Nat → Nat} {L : Nat} {V0 : VV} {st : Nat} {R : Row} {V : VV} (h : GM B L V0 st R 1 V) (a b : Int32) : f_X4_number a b V = some V := m_numW h.2.2.2 a b
theorem m_kind {B : Nat → Nat} {L st : Nat} {V : VV} (h : KM B L st V) (h13 : V.1 0 13 = 0) : (∀ k, k < 6 → wIs B L k st → (∀ j, j < k → ¬ wIs B L j st) → f_X4_kindHere V = some (nI k, V)) ∧ ((∀ j, j < 6 → ¬ wIs B L j st) → f_X4_kindHere V = some (-1, V)) := by
  obtain ⟨x, hx, hw⟩ := m_word h h13
  have w0 : lg_cmp x 773205170 = 0 ↔ wIs B L 0 st := hw 0 (by decide)
  have w1 : lg_cmp x 661609780804 = 0 ↔ wIs B L 1 st := hw 1 (by decide)
  have w2 : lg_cmp x 24416759 = 0 ↔ wIs B L 2 st := hw 2 (by decide)
  have w3 : lg_cmp x 409204 = 0 ↔ wIs B L 3 st := hw 3 (by decide)
  have w4 : lg_cmp x 3193326 = 0 ↔ wIs B L 4 st := hw 4 (by decide)
  have w5 : lg_cmp x 2190877894 = 0 ↔ wIs B L 5 st := hw 5 (by decide)
  unfold f_X4_kindHere
  rw [hx, Option.bind_some]
  dsimp only
  constructor
  · intro k hk hk1 hk2
    have : k = 0 ∨ k = 1 ∨ k = 2 ∨ k = 3 ∨ k = 4 ∨ k = 5 := by omega
    rcases this with rfl | rfl | rfl | rfl | rfl | rfl
    · rw [if_pos (w0.mpr hk1)]; rfl
    · rw [if_neg (mt w0.mp (hk2 0 (by decide))), if_pos (w1.mpr hk1)]; rfl
    · rw [if_neg (mt w0.mp (hk2 0 (by decide))), if_neg (mt w1.mp (hk2 1 (by decide))), if_pos (w2.mpr hk1)]; rfl
    · rw [if_neg (mt w0.mp (hk2 0 (by decide))), if_neg (mt w1.mp (hk2 1 (by decide))), if_neg (mt w2.mp (hk2 2 (by decide))), if_pos (w3.mpr hk1)]; rfl
    · rw [if_neg (mt w0.mp (hk2 0 (by decide))), if_neg (mt w1.mp (hk2 1 (by decide))), if_neg (mt w2.mp (hk2 2 (by decide))), if_neg (mt w3.mp (hk2 3 (by decide))), if_pos (w4.mpr hk1)]; rfl
    · rw [if_neg (mt w0.mp (hk2 0 (by decide))), if_neg (mt w1.mp (hk2 1 (by decide))), if_neg (mt w2.mp (hk2 2 (by decide))), if_neg (mt w3.mp (hk2 3 (by decide))), if_neg (mt w4.mp (hk2 4 (by decide))), if_pos (w5.mpr hk1)]; rfl
  · intro hk2
    rw [if_neg (mt w0.mp (hk2 0 (by decide))), if_neg (mt w1.mp (hk2 1 (by decide))), if_neg (mt w2.mp (hk2 2 (by decide))), if_neg (mt w3.mp (hk2 3 (by decide))), if_neg (mt w4.mp (hk2 4 (by decide))), if_neg (mt w5.mp (hk2 5 (by decide)))]
