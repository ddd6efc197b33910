/-! ===== PURE: numbers, and steps of the reading ===== -/
def tkMF (B : Nat → Nat) : Nat → Nat → Nat → Nat
  | 0, _, a => a
  | d + 1, p, a => tkMF B d (p + 1) (if a ≤ 999 then 10 * a + B p - 48 else a)
theorem opt_bid {α : Type} (x : Option α) : (x.bind fun y => some y) = x := by
  cases x with
  | none => rfl
  | some a => rfl
def tkX (B : Nat → Nat) (L st : Nat) : Nat := tkS B L (tkE B L st)
theorem tkX_le {B : Nat → Nat} {L st : Nat} (h : st ≤ L) : st ≤ tkX B L st ∧ tkX B L st ≤ L := by
  unfold tkX
  have h1 := tkE_le (B := B) h
  have h2 := tkS_le (B := B) h1.2
  omega
theorem tkX_lt {B : Nat → Nat} {L st : Nat} (h : st < L) : st < tkX B L st := by
  unfold tkX
  have h1 := tkE_le (B := B) (Nat.le_of_lt h)
  have h2 := tkS_le (B := B) h1.2
  have h3 := tkE_lt (B := B) h
  omega
theorem nv_rel (B : Nat → Nat) : ∀ d p a m, (∀ j, p ≤ j → j < p + d → 48 ≤ B j ∧ B j ≤ 57) → ((a = m ∧ m ≤ 999) ∨ (a = 1000 ∧ 1000 ≤ m ∧ m ≤ 9999)) → ((tkNF B d p a = tkMF B d p m ∧ tkMF B d p m ≤ 999) ∨ (tkNF B d p a = 1000 ∧ 1000 ≤ tkMF B d p m ∧ tkMF B d p m ≤ 9999)) := by
  intro d
  induction d with
  | zero => intro p a m _ h; exact h
  | succ d ih =>
    intro p a m hd h
    have h1 := hd p (by omega) (by omega)
    unfold tkNF tkMF
    refine ih (p + 1) _ _ (fun j h1 h2 => hd j (by omega) (by omega)) ?_
    rcases h with ⟨q1, q2⟩ | ⟨q1, q2, q3⟩
    · rw [if_pos q2]
      omega
    · rw [if_neg (by omega)]
      omega
theorem m_in3 {M lo hi : Nat} (hM : M < 2 ^ 31) (hlo : lo < 2 ^ 31) (hhi : hi < 2 ^ 31) (V : VV) : f_X4_in (nI M).toInt64 (nI lo).toInt64 (nI hi).toInt64 V = some (if lo ≤ M ∧ M ≤ hi then 1 else 0, V) := by
  rw [m_in]
  by_cases h : lo ≤ M ∧ M ≤ hi
  · rw [if_pos h, if_pos ⟨nI_nlt h.1 hM, nI_nlt h.2 hhi⟩]
  · rw [if_neg h, if_neg (fun z => h ⟨by
      have := mt (nI_ltI hM hlo).mpr z.1
      omega, by
      have := mt (nI_ltI hhi hM).mpr z.2
      omega⟩)]
theorem wI_same (V : VV) (c k : Nat) : wI V c k (V.1 c k) = V := by
  refine vv_ext (fun x q => ?_) rfl
  by_cases hx : x = c
  · subst hx; rw [wI_eq, upd_self]
  · rw [wI_ne hx]
theorem KM.w {B : Nat → Nat} {L st : Nat} {V : VV} (h : KM B L st V) {k : Nat} (hk : k = 12 ∨ k = 13) (v : Int32) : KM B L st (wI V 0 k v) := by
  obtain ⟨hL, hb, hst, c9, cB, c10, c11⟩ := h
  refine ⟨hL, hb, hst, ?_, fun k' => ?_, ?_, ?_⟩
  · rw [wI_eq, upd_ne (by omega)]; exact c9
  · rw [wI_ne (by decide)]; exact cB k'
  · rw [wI_eq, upd_ne (by omega)]; exact c10
  · rw [wI_eq, upd_ne (by omega)]; exact c11
theorem m_must1 {B : Nat → Nat} {L st : Nat} {V : VV} (h : KM B L st V) (h13 : V.1 0 13 = 0) : f_X4_must 1 V = some (tM V (nI (tkX B L st)) (nI (tkE B L (tkX B L st))) (V.1 0 12) 0) := by
  obtain ⟨hL, hb, hst, c9, cB, c10, c11⟩ := h
  have e : wI V 0 13 0 = V := by
    have := wI_same V 0 13
    rw [h13] at this
    exact this
  unfold f_X4_must
  rw [if_pos h13, if_neg (show ¬ (1 : Int32) = 0 by decide), e, bV_e, if_pos h13, m_token c9 hL cB hb (tkE_le hst).2 c11, Option.bind_some, h13]
  rfl
theorem m_must0 {V : VV} (h13 : V.1 0 13 = 0) : f_X4_must 0 V = some (wI V 0 13 1) := by
  unfold f_X4_must
  rw [if_pos h13, if_pos (show (0 : Int32) = 0 from rfl), bV_e, wI_eq, upd_eq, if_neg (show ¬ (1 : Int32) = 0 by decide)]
theorem m_mustW {V : VV} (h13 : V.1 0 13 = 1) (a : Int32) : f_X4_must a V = some V := by
  have e : wI V 0 13 1 = V := by
    have := wI_same V 0 13
    rw [h13] at this
    exact this
  unfold f_X4_must
  rw [h13, if_neg (show ¬ (1 : Int32) = 0 by decide), e, bV_e, h13, if_neg (show ¬ (1 : Int32) = 0 by decide)]
theorem m_numW {V : VV} (h13 : V.1 0 13 = 1) (a b : Int32) : f_X4_number a b V = some V := by
  unfold f_X4_number
  rw [h13, if_neg (show ¬ (1 : Int32) = 0 by decide)]
theorem m_num0 {B : Nat → Nat} {L st : Nat} {V : VV} (h : KM B L st V) (h13 : V.1 0 13 = 0) (hT : tkT B L st ≠ 2) (a b : Int32) : f_X4_number a b V = some (wI (wI V 0 12 0) 0 13 1) := by
  have h' := h
  obtain ⟨hL, hb, hst, c9, cB, c10, c11⟩ := h
  have hend : ∀ f p, f_X4_number_L29 (f + 1) a b 0 0 p V = some (wI (wI V 0 12 0) 0 13 1) := by
    intro f p
    rw [f_X4_number_L29, if_pos (show (0 : Int32) = 0 from rfl), bV_e, if_pos (show (0 : Int32) = 0 from rfl), m_must0 (by rw [wI_eq, upd_ne (by decide)]; exact h13), Option.bind_some, ite_self]
  unfold f_X4_number
  rw [if_pos h13, c10]
  by_cases hl : st < L
  · have hT2 : tkT B L st = tkC (B st) := by unfold tkT; rw [if_pos hl]
    rw [m_byteY c9 hL cB hl, Option.bind_some]
    dsimp only
    rw [m_digitB _ (hb st), Option.bind_some]
    dsimp only
    rw [if_neg (show ¬ tkC (B st) = 2 by rw [← hT2]; exact hT)]
    exact hend _ _
  · rw [m_byteN c9 (show L ≤ st by omega) (by omega), Option.bind_some]
    dsimp only
    rw [m_digitE, Option.bind_some]
    dsimp only
    exact hend _ _
theorem m_num2 {B : Nat → Nat} {L st : Nat} {V : VV} (h : KM B L st V) (h13 : V.1 0 13 = 0) (hT : tkT B L st = 2) {lo hi : Nat} (hlo : lo ≤ 999) (hhi : hi ≤ 999) : ∃ M : Nat, (lo ≤ M ∧ M ≤ hi ↔ lo ≤ tkN B L st ∧ tkN B L st ≤ hi) ∧ (M ≤ hi → M = tkN B L st) ∧ f_X4_number (nI lo) (nI hi) V = if lo ≤ M ∧ M ≤ hi then f_X4_must 1 (wI V 0 12 (nI M)) else f_X4_must 0 (wI V 0 12 (nI M)) := by
  obtain ⟨hL, hb, hst, c9, cB, c10, c11⟩ := h
  have hEl := tkE_le (B := B) hst
  have hd : ∀ j, st ≤ j → j < tkE B L st → 48 ≤ B j ∧ B j ≤ 57 := fun j h1 h2 => tkC_2 ((tkE_all (Or.inr hT) j h1 h2).trans hT)
  have hl : st < L := by
    by_cases q : st < L
    · exact q
    · unfold tkT at hT; rw [if_neg q] at hT; omega
  have hT2 : tkC (B st) = 2 := by
    unfold tkT at hT; rw [if_pos hl] at hT; exact hT
  have key : ∀ d p acc fuel, p + d = tkE B L st → st ≤ p → d < fuel → acc ≤ 9999 → tkMF B d p acc ≤ 9999 → f_X4_number_L29 fuel (nI lo) (nI hi) 1 (nI acc) (nI p) V = if lo ≤ tkMF B d p acc ∧ tkMF B d p acc ≤ hi then f_X4_must 1 (wI V 0 12 (nI (tkMF B d p acc))) else f_X4_must 0 (wI V 0 12 (nI (tkMF B d p acc))) := by
    intro d
    induction d with
    | zero =>
      intro p acc fuel hp hsp hf ha hm
      obtain ⟨f, rfl⟩ : ∃ f, fuel = f + 1 := ⟨fuel - 1, by omega⟩
      show _ = if lo ≤ acc ∧ acc ≤ hi then f_X4_must 1 (wI V 0 12 (nI acc)) else f_X4_must 0 (wI V 0 12 (nI acc))
      rw [f_X4_number_L29, c11, if_pos (nI_le (show tkE B L st ≤ p by omega) (by omega)), bV_e, if_neg (show ¬ (1 : Int32) = 0 by decide), m_in3 (by omega) (by omega) (by omega), Option.bind_some]
      dsimp only
      by_cases q : lo ≤ acc ∧ acc ≤ hi
      · rw [if_pos q, if_pos q, if_neg (show ¬ (1 : Int32) = 0 by decide), opt_bid]
      · rw [if_neg q, if_neg q, if_pos (show (0 : Int32) = 0 from rfl), opt_bid]
    | succ d ih =>
      intro p acc fuel hp hsp hf ha hm
      obtain ⟨f, rfl⟩ : ∃ f, fuel = f + 1 := ⟨fuel - 1, by omega⟩
      have hdp := hd p hsp (by omega)
      have e1 : 10 * nI acc + nI (B p) - 48 = nI (10 * acc + B p - 48) := by
        rw [show (10 : Int32) = nI 10 from rfl, pk_mul, nI_add, show (48 : Int32) = nI 48 from rfl, pk_sub (by omega)]
      unfold tkMF at hm ⊢
      rw [f_X4_number_L29, c11, if_neg (nI_ge (show p < tkE B L st by omega) (by omega)), if_neg (show ¬ (1 : Int32) = 0 by decide), inb_nI (show p < 120 by omega) (by decide), itt, cl_nI (show p < 2 ^ 31 by omega), cB, e1, nI_succ']
      by_cases q : acc ≤ 999
      · rw [if_pos q] at hm ⊢
        rw [if_pos (show nI acc ≤ (999 : Int32) from nI_le (b := 999) q (by decide))]
        exact ih (p + 1) _ f (by omega) (by omega) (by omega) (by omega) hm
      · rw [if_neg q] at hm ⊢
        rw [if_neg (show ¬ nI acc ≤ (999 : Int32) from nI_ge (a := 999) (by omega) (by omega))]
        exact ih (p + 1) _ f (by omega) (by omega) (by omega) (by omega) hm
  have hr := nv_rel B (tkE B L st - st) st 0 0 (fun j h1 h2 => hd j h1 (by omega)) (Or.inl ⟨rfl, by omega⟩)
  have hn : tkN B L st = tkNF B (tkE B L st - st) st 0 := rfl
  rw [← hn] at hr
  refine ⟨tkMF B (tkE B L st - st) st 0, by omega, by omega, ?_⟩
  unfold f_X4_number
  rw [if_pos h13, c10, m_byteY c9 hL cB hl, Option.bind_some]
  dsimp only
  rw [m_digitB _ (hb st), Option.bind_some]
  dsimp only
  rw [if_pos hT2, c10]
  exact key (tkE B L st - st) st 0 200 (by omega) (by omega) (by omega) (by omega) (by omega)
theorem tM_tM (V : VV) (a b c d f t v w : Int32) : tM (tM V a b c d) f t v w = tM V f t v w := by
  refine vv_ext (fun x k => ?_) rfl
  by_cases hx : x = 0
  · subst hx
    rw [tM_k, tM_k, tM_k]
    by_cases q1 : k = 10
    · simp only [if_pos q1]
    · by_cases q2 : k = 11
      · simp only [if_neg q1, if_pos q2]
      · by_cases q3 : k = 12
        · simp only [if_neg q1, if_neg q2, if_pos q3]
        · by_cases q4 : k = 13
          · simp only [if_neg q1, if_neg q2, if_neg q3, if_pos q4]
          · simp only [if_neg q1, if_neg q2, if_neg q3, if_neg q4]
  · rw [tM_o _ _ _ _ _ hx, tM_o _ _ _ _ _ hx, tM_o _ _ _ _ _ hx]
theorem tM_w (V : VV) (u f t v w : Int32) : tM (wI V 0 12 u) f t v w = tM V f t v w := by
  have e : wI V 0 12 u = tM V (V.1 0 10) (V.1 0 11) u (V.1 0 13) := by
    rw [← tM_w12 V (V.1 0 10) (V.1 0 11) (V.1 0 12), tM_row]
  rw [e, tM_tM]
theorem m_numY {B : Nat → Nat} {L st : Nat} {V : VV} (h : KM B L st V) (h13 : V.1 0 13 = 0) {lo hi : Nat} (hlo : lo ≤ 999) (hhi : hi ≤ 999) (hok : tkT B L st = 2 ∧ lo ≤ tkN B L st ∧ tkN B L st ≤ hi) : f_X4_number (nI lo) (nI hi) V = some (tM V (nI (tkX B L st)) (nI (tkE B L (tkX B L st))) (nI (tkN B L st)) 0) := by
  obtain ⟨M, h1, h2, h3⟩ := m_num2 h h13 hok.1 hlo hhi
  have h4 := h1.mpr hok.2
  have h5 := h2 h4.2
  rw [h3, if_pos h4, h5, m_must1 (h.w (Or.inl rfl) _) (by rw [wI_eq, upd_ne (by decide)]; exact h13), wI_eq, upd_eq]
  rw [tM_w]
theorem m_numN {B : Nat → Nat} {L st : Nat} {V : VV} (h : KM B L st V) (h13 : V.1 0 13 = 0) {lo hi : Nat} (hlo : lo ≤ 999) (hhi : hi ≤ 999) (hok : ¬ (tkT B L st = 2 ∧ lo ≤ tkN B L st ∧ tkN B L st ≤ hi)) : ∃ v, f_X4_number (nI lo) (nI hi) V = some (wI (wI V 0 12 v) 0 13 1) := by
  by_cases hT : tkT B L st = 2
  · obtain ⟨M, h1, h2, h3⟩ := m_num2 h h13 hT hlo hhi
    refine ⟨nI M, ?_⟩
    rw [h3, if_neg (fun z => hok ⟨hT, h1.mp z⟩), m_must0 (by rw [wI_eq, upd_ne (by decide)]; exact h13)]
  · exact ⟨0, m_num0 h h13 hT _ _⟩
