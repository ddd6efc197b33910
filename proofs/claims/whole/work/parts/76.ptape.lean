/-! ===== PURE: the tape and its tokens ===== -/
def tkC (b : Nat) : Nat := if 97 ≤ b ∧ b ≤ 122 then 1 else if 48 ≤ b ∧ b ≤ 57 then 2 else if b = 59 then 3 else 4
def tkSF (B : Nat → Nat) : Nat → Nat → Nat
  | 0, p => p
  | d + 1, p => if B p = 32 then tkSF B d (p + 1) else p
def tkRF (B : Nat → Nat) (c : Nat) : Nat → Nat → Nat
  | 0, p => p
  | d + 1, p => if tkC (B p) = c then tkRF B c d (p + 1) else p
def tkNF (B : Nat → Nat) : Nat → Nat → Nat → Nat
  | 0, _, a => a
  | d + 1, p, a => tkNF B d (p + 1) (min (a * 10 + B p - 48) 1000)
def tkS (B : Nat → Nat) (L p : Nat) : Nat := tkSF B (L - p) p
def tkT (B : Nat → Nat) (L st : Nat) : Nat := if st < L then tkC (B st) else 0
def tkE (B : Nat → Nat) (L st : Nat) : Nat := if st < L then (if tkC (B st) = 1 ∨ tkC (B st) = 2 then tkRF B (tkC (B st)) (L - (st + 1)) (st + 1) else st + 1) else st
def tkN (B : Nat → Nat) (L st : Nat) : Nat := tkNF B (tkE B L st - st) st 0
theorem tkSF_1 (B : Nat → Nat) : ∀ d p, p ≤ tkSF B d p ∧ tkSF B d p ≤ p + d := by
  intro d
  induction d with
  | zero => intro p; exact ⟨Nat.le_refl _, Nat.le_refl _⟩
  | succ d ih =>
    intro p
    unfold tkSF
    by_cases h : B p = 32
    · rw [if_pos h]; have := ih (p + 1); omega
    · rw [if_neg h]; omega
theorem tkRF_1 (B : Nat → Nat) (c : Nat) : ∀ d p, p ≤ tkRF B c d p ∧ tkRF B c d p ≤ p + d ∧ ∀ i, p ≤ i → i < tkRF B c d p → tkC (B i) = c := by
  intro d
  induction d with
  | zero => intro p; exact ⟨Nat.le_refl _, Nat.le_refl _, fun i h1 h2 => absurd h2 (by unfold tkRF; omega)⟩
  | succ d ih =>
    intro p
    unfold tkRF
    by_cases h : tkC (B p) = c
    · rw [if_pos h]
      obtain ⟨h1, h2, h3⟩ := ih (p + 1)
      refine ⟨by omega, by omega, fun i hi hi2 => ?_⟩
      by_cases e : i = p
      · rw [e]; exact h
      · exact h3 i (by omega) hi2
    · rw [if_neg h]
      exact ⟨by omega, by omega, fun i h1 h2 => absurd h2 (by omega)⟩
theorem tkS_le {B : Nat → Nat} {L p : Nat} (h : p ≤ L) : p ≤ tkS B L p ∧ tkS B L p ≤ L := by
  unfold tkS
  have := tkSF_1 B (L - p) p
  omega
theorem tkE_le {B : Nat → Nat} {L st : Nat} (h : st ≤ L) : st ≤ tkE B L st ∧ tkE B L st ≤ L := by
  unfold tkE
  by_cases h1 : st < L
  · rw [if_pos h1]
    by_cases h2 : tkC (B st) = 1 ∨ tkC (B st) = 2
    · rw [if_pos h2]
      have := tkRF_1 B (tkC (B st)) (L - (st + 1)) (st + 1)
      omega
    · rw [if_neg h2]; omega
  · rw [if_neg h1]; omega
theorem tkE_lt {B : Nat → Nat} {L st : Nat} (h : st < L) : st < tkE B L st := by
  unfold tkE
  rw [if_pos h]
  by_cases h2 : tkC (B st) = 1 ∨ tkC (B st) = 2
  · rw [if_pos h2]
    have := tkRF_1 B (tkC (B st)) (L - (st + 1)) (st + 1)
    omega
  · rw [if_neg h2]; omega
/-- all of a word or a number are letters, or digits -/
theorem tkE_all {B : Nat → Nat} {L st : Nat} (h : tkT B L st = 1 ∨ tkT B L st = 2) : ∀ i, st ≤ i → i < tkE B L st → tkC (B i) = tkT B L st := by
  intro i h1 h2
  by_cases hl : st < L
  · have e : tkT B L st = tkC (B st) := by unfold tkT; rw [if_pos hl]
    rw [e] at h ⊢
    unfold tkE at h2
    rw [if_pos hl, if_pos h] at h2
    by_cases q : i = st
    · rw [q]
    · exact (tkRF_1 B (tkC (B st)) (L - (st + 1)) (st + 1)).2.2 i (by omega) h2
  · unfold tkT at h
    rw [if_neg hl] at h
    omega
theorem tkC_2 {b : Nat} (h : tkC b = 2) : 48 ≤ b ∧ b ≤ 57 := by
  unfold tkC at h
  by_cases h1 : 97 ≤ b ∧ b ≤ 122
  · rw [if_pos h1] at h; omega
  · rw [if_neg h1] at h
    by_cases h2 : 48 ≤ b ∧ b ≤ 57
    · exact h2
    · rw [if_neg h2] at h
      by_cases h3 : b = 59
      · rw [if_pos h3] at h; omega
      · rw [if_neg h3] at h; omega
theorem tkC_1 {b : Nat} (h : tkC b = 1) : 97 ≤ b ∧ b ≤ 122 := by
  unfold tkC at h
  by_cases h1 : 97 ≤ b ∧ b ≤ 122
  · exact h1
  · rw [if_neg h1] at h
    by_cases h2 : 48 ≤ b ∧ b ≤ 57
    · rw [if_pos h2] at h; omega
    · rw [if_neg h2] at h
      by_cases h3 : b = 59
      · rw [if_pos h3] at h; omega
      · rw [if_neg h3] at h; omega
theorem tkC_le (b : Nat) : 1 ≤ tkC b ∧ tkC b ≤ 4 := by
  unfold tkC
  by_cases h1 : 97 ≤ b ∧ b ≤ 122
  · rw [if_pos h1]; omega
  · rw [if_neg h1]
    by_cases h2 : 48 ≤ b ∧ b ≤ 57
    · rw [if_pos h2]; omega
    · rw [if_neg h2]
      by_cases h3 : b = 59
      · rw [if_pos h3]; omega
      · rw [if_neg h3]; omega
theorem tkT_le (B : Nat → Nat) (L st : Nat) : tkT B L st ≤ 4 := by
  unfold tkT
  by_cases h : st < L
  · rw [if_pos h]; exact (tkC_le _).2
  · rw [if_neg h]; omega
def tkI (a : Int32) : Int32 := (if a < 97 then (if a < 48 then (if a = 59 then 3 else 4) else (if 57 < a then (if a = 59 then 3 else 4) else 2)) else (if 122 < a then (if a < 48 then (if a = 59 then 3 else 4) else (if 57 < a then (if a = 59 then 3 else 4) else 2)) else 1))
theorem tkI_ok : ∀ b, b < 256 → tkI (nI b) = nI (tkC b) := by decide +kernel
theorem k_typeOf (V : VV) {b : Nat} (hb : b < 256) : f_X2_typeOf (nI b) V = some (nI (tkC b), V) := by
  rw [← tkI_ok b hb]
  generalize nI b = a
  unfold f_X2_typeOf tkI
  by_cases h1 : a < 97
  · rw [if_pos h1, if_pos h1]
    by_cases h2 : a < 48
    · rw [if_pos h2, if_pos h2]
      by_cases h3 : a = 59
      · rw [if_pos h3, if_pos h3]
      · rw [if_neg h3, if_neg h3]
    · rw [if_neg h2, if_neg h2]
      by_cases h4 : 57 < a
      · rw [if_pos h4, if_pos h4]
        by_cases h3 : a = 59
        · rw [if_pos h3, if_pos h3]
        · rw [if_neg h3, if_neg h3]
      · rw [if_neg h4, if_neg h4]
  · rw [if_neg h1, if_neg h1]
    by_cases h5 : 122 < a
    · rw [if_pos h5, if_pos h5]
      by_cases h2 : a < 48
      · rw [if_pos h2, if_pos h2]
        by_cases h3 : a = 59
        · rw [if_pos h3, if_pos h3]
        · rw [if_neg h3, if_neg h3]
      · rw [if_neg h2, if_neg h2]
        by_cases h4 : 57 < a
        · rw [if_pos h4, if_pos h4]
          by_cases h3 : a = 59
          · rw [if_pos h3, if_pos h3]
          · rw [if_neg h3, if_neg h3]
        · rw [if_neg h4, if_neg h4]
    · rw [if_neg h5, if_neg h5]
theorem m_letter (V : VV) (a : Int32) : f_X4_isLetter a V = some (if ¬ a < 97 ∧ ¬ 122 < a then 1 else 0, V) := by
  unfold f_X4_isLetter
  rw [show (97 : Int64) = (97 : Int32).toInt64 by decide, show (122 : Int64) = (122 : Int32).toInt64 by decide, m_in]
  rfl
theorem m_digit (V : VV) (a : Int32) : f_X4_isDigit a V = some (if ¬ a < 48 ∧ ¬ 57 < a then 1 else 0, V) := by
  unfold f_X4_isDigit
  rw [show (48 : Int64) = (48 : Int32).toInt64 by decide, show (57 : Int64) = (57 : Int32).toInt64 by decide, m_in]
  rfl
theorem letter_ok : ∀ b, b < 256 → (if ¬ nI b < 97 ∧ ¬ 122 < nI b then (1 : Int32) else 0) = if tkC b = 1 then 1 else 0 := by decide +kernel
theorem digit_ok : ∀ b, b < 256 → (if ¬ nI b < 48 ∧ ¬ 57 < nI b then (1 : Int32) else 0) = if tkC b = 2 then 1 else 0 := by decide +kernel
theorem m_letterB (V : VV) {b : Nat} (hb : b < 256) : f_X4_isLetter (nI b) V = some (if tkC b = 1 then 1 else 0, V) := by rw [m_letter, letter_ok b hb]
theorem m_digitB (V : VV) {b : Nat} (hb : b < 256) : f_X4_isDigit (nI b) V = some (if tkC b = 2 then 1 else 0, V) := by rw [m_digit, digit_ok b hb]
theorem m_letterE (V : VV) : f_X4_isLetter (-1) V = some (0, V) := by rw [m_letter, if_neg (by decide)]
theorem m_digitE (V : VV) : f_X4_isDigit (-1) V = some (0, V) := by rw [m_digit, if_neg (by decide)]
/-! the class's token -/
def tC (V : VV) (a b c e t : Int32) : VV := (fun x => if x = 25 then (fun k => if k = 2 then a else if k = 3 then b else if k = 4 then c else if k = 5 then e else if k = 6 then t else V.1 25 k) else V.1 x, V.2)
theorem tC_k (V : VV) (a b c e t : Int32) (k : Nat) : (tC V a b c e t).1 25 k = if k = 2 then a else if k = 3 then b else if k = 4 then c else if k = 5 then e else if k = 6 then t else V.1 25 k := by
  show (if 25 = 25 then (fun k => if k = 2 then a else if k = 3 then b else if k = 4 then c else if k = 5 then e else if k = 6 then t else V.1 25 k) else V.1 25) k = _
  rw [if_pos rfl]
theorem tC_o (V : VV) (a b c e t : Int32) {x : Nat} (h : x ≠ 25) : (tC V a b c e t).1 x = V.1 x := by
  show (if x = 25 then (fun k => if k = 2 then a else if k = 3 then b else if k = 4 then c else if k = 5 then e else if k = 6 then t else V.1 25 k) else V.1 x) = _
  rw [if_neg h]
theorem tC_2 (V : VV) (a b c e t : Int32) : (tC V a b c e t).1 25 2 = a := by rw [tC_k, if_pos rfl]
theorem tC_3 (V : VV) (a b c e t : Int32) : (tC V a b c e t).1 25 3 = b := by rw [tC_k, if_neg (by decide), if_pos rfl]
theorem tC_4 (V : VV) (a b c e t : Int32) : (tC V a b c e t).1 25 4 = c := by rw [tC_k, if_neg (by decide), if_neg (by decide), if_pos rfl]
theorem tC_5 (V : VV) (a b c e t : Int32) : (tC V a b c e t).1 25 5 = e := by rw [tC_k, if_neg (by decide), if_neg (by decide), if_neg (by decide), if_pos rfl]
theorem tC_6 (V : VV) (a b c e t : Int32) : (tC V a b c e t).1 25 6 = t := by rw [tC_k, if_neg (by decide), if_neg (by decide), if_neg (by decide), if_neg (by decide), if_pos rfl]
theorem tC_0 (V : VV) (a b c e t : Int32) : (tC V a b c e t).1 25 0 = V.1 25 0 := by rw [tC_k, if_neg (by decide), if_neg (by decide), if_neg (by decide), if_neg (by decide), if_neg (by decide)]
theorem tC_26 (V : VV) (a b c e t : Int32) : (tC V a b c e t).1 26 = V.1 26 := tC_o V a b c e t (by decide)
theorem tC_row (V : VV) : tC V (V.1 25 2) (V.1 25 3) (V.1 25 4) (V.1 25 5) (V.1 25 6) = V := by
  refine vv_ext (fun x k => ?_) rfl
  by_cases hx : x = 25
  · subst hx
    rw [tC_k]
    by_cases h2 : k = 2
    · rw [if_pos h2, h2]
    · by_cases h3 : k = 3
      · rw [if_neg h2, if_pos h3, h3]
      · by_cases h4 : k = 4
        · rw [if_neg h2, if_neg h3, if_pos h4, h4]
        · by_cases h5 : k = 5
          · rw [if_neg h2, if_neg h3, if_neg h4, if_pos h5, h5]
          · by_cases h6 : k = 6
            · rw [if_neg h2, if_neg h3, if_neg h4, if_neg h5, if_pos h6, h6]
            · rw [if_neg h2, if_neg h3, if_neg h4, if_neg h5, if_neg h6]
  · rw [tC_o _ _ _ _ _ _ hx]
theorem tC_w2 (V : VV) (a b c e t v : Int32) : wI (tC V a b c e t) 25 2 v = tC V v b c e t := by
  refine vv_ext (fun x k => ?_) rfl
  by_cases hx : x = 25
  · subst hx
    rw [wI_eq, tC_k]
    by_cases hk : k = 2
    · subst hk; rw [upd_eq]; simp
    · rw [upd_ne hk, tC_k]; simp only [if_neg hk]
  · rw [wI_ne hx, tC_o _ _ _ _ _ _ hx, tC_o _ _ _ _ _ _ hx]
theorem tC_w3 (V : VV) (a b c e t v : Int32) : wI (tC V a b c e t) 25 3 v = tC V a v c e t := by
  refine vv_ext (fun x k => ?_) rfl
  by_cases hx : x = 25
  · subst hx
    rw [wI_eq, tC_k]
    by_cases hk : k = 3
    · subst hk; rw [upd_eq]; simp
    · rw [upd_ne hk, tC_k]; simp only [if_neg hk]
  · rw [wI_ne hx, tC_o _ _ _ _ _ _ hx, tC_o _ _ _ _ _ _ hx]
theorem tC_w4 (V : VV) (a b c e t v : Int32) : wI (tC V a b c e t) 25 4 v = tC V a b v e t := by
  refine vv_ext (fun x k => ?_) rfl
  by_cases hx : x = 25
  · subst hx
    rw [wI_eq, tC_k]
    by_cases hk : k = 4
    · subst hk; rw [upd_eq]; simp
    · rw [upd_ne hk, tC_k]; simp only [if_neg hk]
  · rw [wI_ne hx, tC_o _ _ _ _ _ _ hx, tC_o _ _ _ _ _ _ hx]
theorem tC_w5 (V : VV) (a b c e t v : Int32) : wI (tC V a b c e t) 25 5 v = tC V a b c v t := by
  refine vv_ext (fun x k => ?_) rfl
  by_cases hx : x = 25
  · subst hx
    rw [wI_eq, tC_k]
    by_cases hk : k = 5
    · subst hk; rw [upd_eq]; simp
    · rw [upd_ne hk, tC_k]; simp only [if_neg hk]
  · rw [wI_ne hx, tC_o _ _ _ _ _ _ hx, tC_o _ _ _ _ _ _ hx]
theorem tC_w6 (V : VV) (a b c e t v : Int32) : wI (tC V a b c e t) 25 6 v = tC V a b c e v := by
  refine vv_ext (fun x k => ?_) rfl
  by_cases hx : x = 25
  · subst hx
    rw [wI_eq, tC_k]
    by_cases hk : k = 6
    · subst hk; rw [upd_eq]; simp
    · rw [upd_ne hk, tC_k]; simp only [if_neg hk]
  · rw [wI_ne hx, tC_o _ _ _ _ _ _ hx, tC_o _ _ _ _ _ _ hx]
