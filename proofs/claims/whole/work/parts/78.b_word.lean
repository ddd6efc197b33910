/-! ===== PURE: words ===== -/
def bytN : List (List Nat) := [[119, 97, 108, 107, 101, 114], [115, 104, 101, 112, 104, 101, 114, 100], [119, 105, 100, 111, 119], [108, 111, 115, 116], [99, 97, 110, 111, 110], [98, 97, 105, 108, 105, 102, 102], [102, 111, 103], [99, 108, 101, 97, 114], [118, 105, 108, 108, 97, 103, 101], [97, 116], [104, 101, 97, 100, 105, 110, 103], [104, 111, 112, 101, 115], [116, 111]]
def chN (s k : Nat) : Nat := (bytN.getD s []).getD k 0
def wcL : List Nat := [773205170, 661609780804, 24416759, 409204, 3193326, 2190877894, 6631, 3544114, 23937287397, 52, 8758896071, 8896691, 655]
def wcN (s : Nat) : Nat := wcL.getD s 0
def hN (d : Nat → Nat) : Nat → Nat
  | 0 => 0
  | m + 1 => 32 * hN d m + d m
def satF (d : Nat → Nat) : Nat → Nat
  | 0 => 0
  | m + 1 => if satF d m ≤ 36028797018963967 then 32 * satF d m + d m else satF d m
theorem chS_ok : ∀ s, s < 13 → ∀ i, i < lenS.getD s 0 → chS s i = nI (chN s i) ∧ 97 ≤ chN s i ∧ chN s i ≤ 122 := by decide +kernel
theorem hN_w : ∀ s, s < 13 → hN (fun i => chN s i - 96) (lenS.getD s 0) = wcN s ∧ 0 < wcN s ∧ wcN s < 36028797018963968 ∧ lenS.getD s 0 ≤ 8 := by decide +kernel
theorem hN_congr {d e : Nat → Nat} : ∀ m, (∀ i, i < m → d i = e i) → hN d m = hN e m := by
  intro m
  induction m with
  | zero => intro _; rfl
  | succ m ih =>
    intro h
    unfold hN
    rw [ih (fun i hi => h i (by omega)), h m (by omega)]
theorem hN_inj {d e : Nat → Nat} : ∀ m l, (∀ i, i < m → 1 ≤ d i ∧ d i < 32) → (∀ i, i < l → 1 ≤ e i ∧ e i < 32) → hN d m = hN e l → m = l ∧ ∀ i, i < m → d i = e i := by
  intro m
  induction m with
  | zero =>
    intro l _ he h
    cases l with
    | zero => exact ⟨rfl, fun i hi => absurd hi (by omega)⟩
    | succ l =>
      unfold hN at h
      have := he l (by omega)
      omega
  | succ m ih =>
    intro l hd he h
    cases l with
    | zero =>
      unfold hN at h
      have := hd m (by omega)
      omega
    | succ l =>
      unfold hN at h
      have h1 := hd m (by omega)
      have h2 := he l (by omega)
      have h3 : hN d m = hN e l := by omega
      have h4 : d m = e l := by omega
      obtain ⟨q1, q2⟩ := ih l (fun i hi => hd i (by omega)) (fun i hi => he i (by omega)) h3
      subst q1
      refine ⟨rfl, fun i hi => ?_⟩
      by_cases q : i = m
      · rw [q]; exact h4
      · exact q2 i (by omega)
theorem hN_lo {d : Nat → Nat} : ∀ m, (∀ i, i < m + 1 → 1 ≤ d i ∧ d i < 32) → 32 ^ m ≤ hN d (m + 1) := by
  intro m
  induction m with
  | zero =>
    intro h
    have := h 0 (by omega)
    show 1 ≤ 32 * hN d 0 + d 0
    omega
  | succ m ih =>
    intro h
    have h1 := ih (fun i hi => h i (by omega))
    have h2 := h (m + 1) (by omega)
    rw [Nat.pow_succ]
    unfold hN
    omega
theorem sat_lo {d : Nat → Nat} : ∀ m, m ≤ 11 → (∀ i, i < m → 1 ≤ d i ∧ d i < 32) → satF d m = hN d m ∧ hN d m + 1 ≤ 32 ^ m := by
  intro m
  induction m with
  | zero => intro _ _; exact ⟨rfl, (show 0 + 1 ≤ 1 by omega)⟩
  | succ m ih =>
    intro hm h
    obtain ⟨h1, h2⟩ := ih (by omega) (fun i hi => h i (by omega))
    have h3 := h m (by omega)
    have h4 : 32 ^ m ≤ 32 ^ 10 := Nat.pow_le_pow_right (by decide) (by omega)
    have h5 : (32 : Nat) ^ 10 = 1125899906842624 := by decide
    unfold satF hN
    rw [h1, if_pos (by omega), Nat.pow_succ]
    exact ⟨rfl, by omega⟩
theorem sat_hi {d : Nat → Nat} : ∀ k, (∀ i, i < 12 + k → 1 ≤ d i ∧ d i < 32) → 36028797018963968 ≤ satF d (12 + k) := by
  intro k
  induction k with
  | zero =>
    intro h
    obtain ⟨h1, h2⟩ := sat_lo (d := d) 11 (by omega) (fun i hi => h i (by omega))
    have h3 : 32 ^ 10 ≤ hN d 11 := hN_lo (d := d) 10 (fun i hi => h i (by omega))
    have h4 : (32 : Nat) ^ 10 = 1125899906842624 := by decide
    have h5 : (32 : Nat) ^ 11 = 36028797018963968 := by decide
    have h6 := h 11 (by omega)
    show 36028797018963968 ≤ (if satF d 11 ≤ 36028797018963967 then 32 * satF d 11 + d 11 else satF d 11)
    rw [h1, if_pos (by omega)]
    omega
  | succ k ih =>
    intro h
    have h1 := ih (fun i hi => h i (by omega))
    show 36028797018963968 ≤ satF d ((12 + k) + 1)
    unfold satF
    rw [if_neg (by omega)]
    exact h1
theorem sat_up {d : Nat → Nat} : ∀ m, (∀ i, i < m → 1 ≤ d i ∧ d i < 32) → satF d m < 1152921504606846976 := by
  intro m
  induction m with
  | zero => intro _; unfold satF; decide
  | succ m ih =>
    intro h
    have h1 := ih (fun i hi => h i (by omega))
    have h2 := h m (by omega)
    unfold satF
    by_cases q : satF d m ≤ 36028797018963967
    · rw [if_pos q]; omega
    · rw [if_neg q]; exact h1
/-- the token at st is the text s -/
def wIs (B : Nat → Nat) (L s st : Nat) : Prop := tkT B L st = 1 ∧ tkE B L st = st + lenS.getD s 0 ∧ ∀ i, i < lenS.getD s 0 → B (st + i) = chN s i
theorem sat_iff {B : Nat → Nat} {L st s : Nat} (hs : s < 13) (hst : st ≤ L) (hT : tkT B L st = 1) : satF (fun i => B (st + i) - 96) (tkE B L st - st) = wcN s ↔ wIs B L s st := by
  have hE := tkE_le (B := B) hst
  have hd : ∀ i, i < tkE B L st - st → 97 ≤ B (st + i) ∧ B (st + i) ≤ 122 := fun i hi => tkC_1 ((tkE_all (Or.inl hT) (st + i) (by omega) (by omega)).trans hT)
  have hd' : ∀ i, i < tkE B L st - st → 1 ≤ B (st + i) - 96 ∧ B (st + i) - 96 < 32 := fun i hi => by have := hd i hi; omega
  obtain ⟨w1, w2, w3, w4⟩ := hN_w s hs
  have he' : ∀ i, i < lenS.getD s 0 → 1 ≤ chN s i - 96 ∧ chN s i - 96 < 32 := fun i hi => by have := chS_ok s hs i hi; omega
  constructor
  · intro h
    by_cases hm : tkE B L st - st ≤ 11
    · obtain ⟨h1, -⟩ := sat_lo (d := fun i => B (st + i) - 96) _ hm hd'
      obtain ⟨q1, q2⟩ := hN_inj (d := fun i => B (st + i) - 96) (e := fun i => chN s i - 96) (tkE B L st - st) (lenS.getD s 0) hd' he' (by rw [← h1, h, w1])
      refine ⟨hT, by omega, fun i hi => ?_⟩
      have a1 := hd i (by omega)
      have a2 := chS_ok s hs i hi
      have a3 := q2 i (by omega)
      omega
    · obtain ⟨k, hk⟩ : ∃ k, tkE B L st - st = 12 + k := ⟨tkE B L st - st - 12, by omega⟩
      rw [hk] at h hd'
      have := sat_hi (d := fun i => B (st + i) - 96) k hd'
      omega
  · rintro ⟨-, h2, h3⟩
    have hm : tkE B L st - st = lenS.getD s 0 := by omega
    rw [hm] at hd' ⊢
    rw [(sat_lo (d := fun i => B (st + i) - 96) _ (by omega) hd').1, ← w1]
    exact hN_congr _ (fun i hi => by rw [h3 i hi])
/-! the states at a token -/
def KC (B : Nat → Nat) (L st : Nat) (V : VV) : Prop := L ≤ 120 ∧ (∀ k, B k < 256) ∧ st ≤ L ∧ V.1 25 0 = nI L ∧ (∀ k, V.1 26 k = nI (B k)) ∧ V.1 25 3 = nI st ∧ V.1 25 4 = nI (tkE B L st) ∧ V.1 25 2 = nI (tkT B L st) ∧ (tkT B L st = 2 → V.1 25 5 = nI (tkN B L st))
def KM (B : Nat → Nat) (L st : Nat) (V : VV) : Prop := L ≤ 120 ∧ (∀ k, B k < 256) ∧ st ≤ L ∧ V.1 0 9 = nI L ∧ (∀ k, V.1 6 k = nI (B k)) ∧ V.1 0 10 = nI st ∧ V.1 0 11 = nI (tkE B L st)
theorem k_wordL {B : Nat → Nat} {L st s : Nat} {V : VV} (h : KC B L st V) (hs : s < 13) (hE : tkE B L st = st + lenS.getD s 0) : ∀ d i fuel, i + d = lenS.getD s 0 → d < fuel → ((∀ j, i ≤ j → j < lenS.getD s 0 → B (st + j) = chN s j) → f_X2_isWord_L28 s fuel (nI i) V = some (1, V)) ∧ (¬ (∀ j, i ≤ j → j < lenS.getD s 0 → B (st + j) = chN s j) → f_X2_isWord_L28 s fuel (nI i) V = some (0, V)) := by
  obtain ⟨hL, hb, hst, c0, cB, c3, c4, c2, c5⟩ := h
  have hEl := tkE_le (B := B) hst
  have hl := (hN_w s hs).2.2.2
  intro d
  induction d with
  | zero =>
    intro i fuel hi hf
    obtain ⟨f, rfl⟩ : ∃ f, fuel = f + 1 := ⟨fuel - 1, by omega⟩
    rw [f_X2_isWord_L28, if_pos (nI_le (show lenS.getD s 0 ≤ i by omega) (by omega))]
    exact ⟨fun _ => rfl, fun z => absurd (fun j h1 h2 => absurd h2 (by omega)) z⟩
  | succ d ih =>
    intro i fuel hi hf
    obtain ⟨f, rfl⟩ : ∃ f, fuel = f + 1 := ⟨fuel - 1, by omega⟩
    obtain ⟨e1, e2, e3⟩ := chS_ok s hs i (by omega)
    rw [f_X2_isWord_L28, if_neg (nI_ge (show i < lenS.getD s 0 by omega) (by omega)), c3, nI_add, inb_nI (show st + i < 120 by omega) (by decide), itt, inb_nI (show i < lenS.getD s 0 by omega) (by omega), itt, cl_nI (show st + i < 2 ^ 31 by omega), cl_nI (show i < 2 ^ 31 by omega), cB, e1, nI_succ']
    by_cases q : B (st + i) = chN s i
    · rw [if_pos (by rw [q])]
      obtain ⟨i1, i2⟩ := ih (i + 1) f (by omega) (by omega)
      refine ⟨fun z => i1 (fun j h1 h2 => z j (by omega) h2), fun z => i2 (fun y => z (fun j h1 h2 => ?_))⟩
      by_cases g : j = i
      · rw [g]; exact q
      · exact y j (by omega) h2
    · have := hb (st + i)
      rw [if_neg (fun z => q ((nI_eq (by omega) (by omega)).mp z))]
      exact ⟨fun z => absurd (z i (by omega) (by omega)) q, fun _ => rfl⟩
theorem k_isWord_y {B : Nat → Nat} {L st s : Nat} {V : VV} (h : KC B L st V) (hs : s < 13) (hw : wIs B L s st) : f_X2_isWord s V = some (1, V) := by
  obtain ⟨w1, w2, w3⟩ := hw
  have hl := (hN_w s hs).2.2.2
  have key := (k_wordL h hs w2 (lenS.getD s 0) 0 200 (by omega) (by omega)).1 (fun j _ h2 => w3 j h2)
  obtain ⟨hL, hb, hst, c0, cB, c3, c4, c2, c5⟩ := h
  unfold f_X2_isWord
  rw [c2, w1, if_pos (show nI 1 = (1 : Int32) from rfl), c3, c4, w2, pk_sub (by omega), show st + lenS.getD s 0 - st = lenS.getD s 0 by omega, if_pos rfl]
  exact key
theorem k_isWord_n {B : Nat → Nat} {L st s : Nat} {V : VV} (h : KC B L st V) (hs : s < 13) (hw : ¬ wIs B L s st) : f_X2_isWord s V = some (0, V) := by
  have h' := h
  obtain ⟨hL, hb, hst, c0, cB, c3, c4, c2, c5⟩ := h
  have hl := (hN_w s hs).2.2.2
  have hEl := tkE_le (B := B) hst
  have hTl := tkT_le B L st
  unfold f_X2_isWord
  rw [c2]
  by_cases w1 : tkT B L st = 1
  · rw [if_pos (show nI (tkT B L st) = (1 : Int32) by rw [w1]; rfl), c3, c4, pk_sub hEl.1]
    by_cases w2 : tkE B L st = st + lenS.getD s 0
    · rw [if_pos (by rw [w2, show st + lenS.getD s 0 - st = lenS.getD s 0 by omega])]
      exact (k_wordL h' hs w2 (lenS.getD s 0) 0 200 (by omega) (by omega)).2 (fun z => hw ⟨w1, w2, fun i hi => z i (by omega) hi⟩)
    · rw [if_neg (fun z => w2 (by have := (nI_eq (by omega) (by omega)).mp z; omega))]
  · rw [if_neg (show ¬ nI (tkT B L st) = (1 : Int32) from fun z => w1 ((nI_eq (b := 1) (by omega) (by decide)).mp z))]
theorem m_wordN {B : Nat → Nat} {L st : Nat} {V : VV} (h : KM B L st V) (hw : V.1 0 13 = 0 → tkT B L st ≠ 1) : f_X4_word V = some (0, V) := by
  obtain ⟨hL, hb, hst, c9, cB, c10, c11⟩ := h
  have hEl := tkE_le (B := B) hst
  have key : ∀ d p fuel x, p + d = tkE B L st → d < fuel → f_X4_word_L7 fuel x (nI p) V = some (0, V) := by
    intro d
    induction d with
    | zero =>
      intro p fuel x hp hf
      obtain ⟨f, rfl⟩ : ∃ f, fuel = f + 1 := ⟨fuel - 1, by omega⟩
      rw [f_X4_word_L7, c11, if_pos (nI_le (by omega) (by omega))]
      by_cases q : V.1 0 13 = 0
      · rw [if_pos q, c10]
        by_cases hl : st < L
        · have hT : tkT B L st = tkC (B st) := by unfold tkT; rw [if_pos hl]
          rw [m_byteY c9 hL cB hl, Option.bind_some]
          dsimp only
          rw [m_letterB _ (hb st), Option.bind_some]
          dsimp only
          rw [if_neg (show ¬ tkC (B st) = 1 by rw [← hT]; exact hw q), if_pos (show (0 : Int32) = 0 from rfl)]
        · rw [m_byteN c9 (show L ≤ st by omega) (by omega), Option.bind_some]
          dsimp only
          rw [m_letterE, Option.bind_some]
          dsimp only
          rw [if_pos (show (0 : Int32) = 0 from rfl)]
      · rw [if_neg q]
    | succ d ih =>
      intro p fuel x hp hf
      obtain ⟨f, rfl⟩ : ∃ f, fuel = f + 1 := ⟨fuel - 1, by omega⟩
      rw [f_X4_word_L7, c11, if_neg (nI_ge (show p < tkE B L st by omega) (by omega)), inb_nI (show p < 120 by omega) (by decide), itt, nI_succ', ih (p + 1) f _ (by omega) (by omega), ih (p + 1) f _ (by omega) (by omega), ite_self]
  unfold f_X4_word
  rw [c10]
  exact key (tkE B L st - st) st 200 0 (by omega) (by omega)
theorem m_wordY {B : Nat → Nat} {L st : Nat} {V : VV} (h : KM B L st V) (h13 : V.1 0 13 = 0) (hT : tkT B L st = 1) : f_X4_word V = some (lN (satF (fun i => B (st + i) - 96) (tkE B L st - st)), V) := by
  obtain ⟨hL, hb, hst, c9, cB, c10, c11⟩ := h
  have hEl := tkE_le (B := B) hst
  have hd : ∀ i, i < tkE B L st - st → 97 ≤ B (st + i) ∧ B (st + i) ≤ 122 := fun i hi => tkC_1 ((tkE_all (Or.inl hT) (st + i) (by omega) (by omega)).trans hT)
  have hl : st < L := by
    by_cases q : st < L
    · exact q
    · unfold tkT at hT; rw [if_neg q] at hT; omega
  have hT2 : tkC (B st) = 1 := by
    unfold tkT at hT; rw [if_pos hl] at hT; exact hT
  have key : ∀ d i fuel, st + i + d = tkE B L st → d < fuel → f_X4_word_L7 fuel (lN (satF (fun i => B (st + i) - 96) i)) (nI (st + i)) V = some (lN (satF (fun i => B (st + i) - 96) (tkE B L st - st)), V) := by
    intro d
    induction d with
    | zero =>
      intro i fuel hp hf
      obtain ⟨f, rfl⟩ : ∃ f, fuel = f + 1 := ⟨fuel - 1, by omega⟩
      rw [f_X4_word_L7, c11, if_pos (nI_le (by omega) (by omega)), if_pos h13, c10, m_byteY c9 hL cB hl, Option.bind_some]
      dsimp only
      rw [m_letterB _ (hb st), Option.bind_some]
      dsimp only
      rw [if_pos hT2, if_neg (show ¬ (1 : Int32) = 0 by decide), show tkE B L st - st = i by omega]
    | succ d ih =>
      intro i fuel hp hf
      obtain ⟨f, rfl⟩ : ∃ f, fuel = f + 1 := ⟨fuel - 1, by omega⟩
      have hdi := hd i (by omega)
      have hup := sat_up (d := fun i => B (st + i) - 96) i (fun j hj => by have := hd j (by omega); show 1 ≤ B (st + j) - 96 ∧ B (st + j) - 96 < 32; omega)
      have ih' := ih (i + 1) f (by omega) (by omega)
      rw [show st + (i + 1) = st + i + 1 by omega, satF] at ih'
      rw [f_X4_word_L7, c11, if_neg (nI_ge (show st + i < tkE B L st by omega) (by omega)), inb_nI (show st + i < 120 by omega) (by decide), itt, nI_succ', cl_nI (show st + i < 2 ^ 31 by omega), cB]
      have e1 : (nI (B (st + i)) - 96 : Int32).toInt64 = lN (B (st + i) - 96) := by
        rw [show (96 : Int32) = nI 96 from rfl, pk_sub (by omega), nI_l (by omega)]
      have e2 : (32 : Int64) * lN (satF (fun i => B (st + i) - 96) i) + lN (B (st + i) - 96) = lN (32 * satF (fun i => B (st + i) - 96) i + (B (st + i) - 96)) := by
        rw [show (32 : Int64) = lN 32 from rfl, lN_mul, lN_add]
      rw [e1, e2]
      by_cases q : satF (fun i => B (st + i) - 96) i ≤ 36028797018963967
      · rw [if_pos q] at ih'
        rw [if_pos (show lg_cmp (lN (satF (fun i => B (st + i) - 96) i)) 36028797018963967 ≤ 0 from (lg_cmp_le _ _).mpr (show lN _ ≤ lN 36028797018963967 from (pk_lLE (by omega) (by decide)).mpr q))]
        exact ih'
      · rw [if_neg q] at ih'
        rw [if_neg (show ¬ lg_cmp (lN (satF (fun i => B (st + i) - 96) i)) 36028797018963967 ≤ 0 from fun z => q ((pk_lLE (b := 36028797018963967) (by omega) (by decide)).mp ((lg_cmp_le _ _).mp z)))]
        exact ih'
  unfold f_X4_word
  rw [c10]
  exact key (tkE B L st - st) 0 200 (by omega) (by omega)
theorem m_word {B : Nat → Nat} {L st : Nat} {V : VV} (h : KM B L st V) (h13 : V.1 0 13 = 0) : ∃ x, f_X4_word V = some (x, V) ∧ ∀ s, s < 13 → (lg_cmp x (lN (wcN s)) = 0 ↔ wIs B L s st) := by
  by_cases hT : tkT B L st = 1
  · refine ⟨_, m_wordY h h13 hT, fun s hs => ?_⟩
    obtain ⟨hL, hb, hst, c9, cB, c10, c11⟩ := h
    have hup := sat_up (d := fun i => B (st + i) - 96) (tkE B L st - st) (fun j hj => by have := tkC_1 ((tkE_all (Or.inl hT) (st + j) (by omega) (by omega)).trans hT); show 1 ≤ B (st + j) - 96 ∧ B (st + j) - 96 < 32; omega)
    have hw := hN_w s hs
    rw [lg_cmp_eq, pk_lEQ (by omega) (by omega)]
    exact sat_iff hs hst hT
  · refine ⟨0, m_wordN h (fun _ => hT), fun s hs => ?_⟩
    have hw := hN_w s hs
    rw [lg_cmp_eq, show (0 : Int64) = lN 0 from rfl, pk_lEQ (by decide) (by omega)]
    exact ⟨fun z => absurd z (by omega), fun z => absurd z.1 hT⟩
