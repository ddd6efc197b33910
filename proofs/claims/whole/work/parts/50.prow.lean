/-! ===== PURE: rows of a moor, in the class and in the reference ===== -/
abbrev Row : Type := Nat → Int32
def sp (w k : Nat) : Nat := 4 + 7 * w + k
def rowC (j : Nat) (V : VV) : Row := fun p => if p = 0 then V.1 (8 * j) 3 else if p = 1 then V.1 (8 * j) 0 else if p = 2 then V.1 (8 * j) 1 else if p = 3 then V.1 (8 * j) 2 else V.1 (8 * j + 1 + (p - 4) % 7) ((p - 4) / 7)
def pR (j : Nat) (V : VV) (R : Row) : VV := (fun c k => if c = 8 * j then (if k = 3 then R 0 else if k = 0 then R 1 else if k = 1 then R 2 else if k = 2 then R 3 else V.1 c k) else if 8 * j < c ∧ c < 8 * j + 8 then R (4 + 7 * k + (c - 8 * j - 1)) else V.1 c k, V.2)
def mR (V : VV) (R : Row) : VV := (fun c => if c = 1 then R else V.1 c, V.2)
def Z60 (R : Row) : Prop := ∀ p, 60 ≤ p → R p = 0
theorem vv_ext {V W : VV} (h1 : ∀ c k, V.1 c k = W.1 c k) (h2 : V.2 = W.2) : V = W := by
  obtain ⟨a, b⟩ := V
  obtain ⟨c, d⟩ := W
  simp only at h1 h2
  rw [h2]
  congr 1
  funext c k
  exact h1 c k
theorem pR_row (j : Nat) (V : VV) : pR j V (rowC j V) = V := by
  apply vv_ext
  · intro c k
    simp only [pR, rowC]
    by_cases h : c = 8 * j
    · subst h
      simp only [if_true]
      by_cases h3 : k = 3
      · simp [h3]
      · by_cases h0 : k = 0
        · simp [h0]
        · by_cases h1 : k = 1
          · simp [h1]
          · by_cases h2 : k = 2
            · simp [h2]
            · simp [h3, h0, h1, h2]
    · rw [if_neg h]
      by_cases h2 : 8 * j < c ∧ c < 8 * j + 8
      · rw [if_pos h2, if_neg (by omega), if_neg (by omega), if_neg (by omega), if_neg (by omega)]
        have e1 : 8 * j + 1 + (4 + 7 * k + (c - 8 * j - 1) - 4) % 7 = c := by omega
        have e2 : (4 + 7 * k + (c - 8 * j - 1) - 4) / 7 = k := by omega
        rw [e1, e2]
      · rw [if_neg h2]
  · rfl
theorem rowC_pR (j : Nat) (V : VV) (R : Row) : rowC j (pR j V R) = R := by
  funext p
  simp only [rowC, pR]
  by_cases h0 : p = 0
  · simp [h0]
  · by_cases h1 : p = 1
    · simp [h1]
    · by_cases h2 : p = 2
      · simp [h2]
      · by_cases h3 : p = 3
        · simp [h3]
        · rw [if_neg h0, if_neg h1, if_neg h2, if_neg h3, if_neg (by omega), if_pos (by omega)]
          congr 1
          omega
theorem rowC_pR_ne {i j : Nat} (h : i ≠ j) (V : VV) (R : Row) : rowC i (pR j V R) = rowC i V := by
  funext p
  have key : ∀ d k, d < 8 → (pR j V R).1 (8 * i + d) k = V.1 (8 * i + d) k := by
    intro d k hd
    simp only [pR]
    rw [if_neg (by omega), if_neg (by omega)]
  simp only [rowC]
  have k0 := key 0 3 (by omega)
  have k1 := key 0 0 (by omega)
  have k2 := key 0 1 (by omega)
  have k3 := key 0 2 (by omega)
  have k4 := key (1 + (p - 4) % 7) ((p - 4) / 7) (by omega)
  rw [← Nat.add_assoc] at k4
  simp only [Nat.add_zero] at k0 k1 k2 k3
  rw [k0, k1, k2, k3, k4]
theorem pR_pR (j : Nat) (V : VV) (R R' : Row) : pR j (pR j V R) R' = pR j V R' := by
  apply vv_ext
  · intro c k
    simp only [pR]
    by_cases h : c = 8 * j
    · simp only [h, if_true]
      by_cases h3 : k = 3
      · simp [h3]
      · by_cases h0 : k = 0
        · simp [h0]
        · by_cases h1 : k = 1
          · simp [h1]
          · by_cases h2 : k = 2
            · simp [h2]
            · simp [h3, h0, h1, h2]
    · simp only [if_neg h]
      by_cases h2 : 8 * j < c ∧ c < 8 * j + 8
      · simp only [if_pos h2]
      · simp only [if_neg h2]
  · rfl
theorem pR_2 (j : Nat) (V : VV) (R : Row) : (pR j V R).2 = V.2 := rfl
theorem pR_far {j : Nat} (V : VV) (R : Row) {c : Nat} (hj : j < 3) (hc : 24 ≤ c) : (pR j V R).1 c = V.1 c := by
  funext k
  simp only [pR]
  rw [if_neg (by omega), if_neg (by omega)]
theorem pR_n (j : Nat) (V : VV) (R : Row) : (pR j V R).1 (8 * j) 3 = R 0 := by simp [pR]
theorem pR_t (j : Nat) (V : VV) (R : Row) : (pR j V R).1 (8 * j) 0 = R 1 := by simp [pR]
theorem pR_f (j : Nat) (V : VV) (R : Row) : (pR j V R).1 (8 * j) 1 = R 2 := by simp [pR]
theorem pR_v (j : Nat) (V : VV) (R : Row) : (pR j V R).1 (8 * j) 2 = R 3 := by simp [pR]
theorem pR_a (j : Nat) (V : VV) (R : Row) (k w : Nat) (h0 : 0 < k) (h : k < 8) : (pR j V R).1 (8 * j + k) w = R (sp w (k - 1)) := by
  simp only [pR, sp]
  rw [if_neg (by omega), if_pos (by omega)]
  congr 1
  omega
theorem pR_1 (j : Nat) (V : VV) (R : Row) (w : Nat) : (pR j V R).1 (8 * j + 1) w = R (sp w 0) := pR_a j V R 1 w (by omega) (by omega)
theorem pR_2' (j : Nat) (V : VV) (R : Row) (w : Nat) : (pR j V R).1 (8 * j + 2) w = R (sp w 1) := pR_a j V R 2 w (by omega) (by omega)
theorem pR_3 (j : Nat) (V : VV) (R : Row) (w : Nat) : (pR j V R).1 (8 * j + 3) w = R (sp w 2) := pR_a j V R 3 w (by omega) (by omega)
theorem pR_4 (j : Nat) (V : VV) (R : Row) (w : Nat) : (pR j V R).1 (8 * j + 4) w = R (sp w 3) := pR_a j V R 4 w (by omega) (by omega)
theorem pR_5 (j : Nat) (V : VV) (R : Row) (w : Nat) : (pR j V R).1 (8 * j + 5) w = R (sp w 4) := pR_a j V R 5 w (by omega) (by omega)
theorem pR_6 (j : Nat) (V : VV) (R : Row) (w : Nat) : (pR j V R).1 (8 * j + 6) w = R (sp w 5) := pR_a j V R 6 w (by omega) (by omega)
theorem pR_7 (j : Nat) (V : VV) (R : Row) (w : Nat) : (pR j V R).1 (8 * j + 7) w = R (sp w 6) := pR_a j V R 7 w (by omega) (by omega)
theorem upd_eq (R : Row) (p : Nat) (v : Int32) : upd R p v p = v := by simp [upd]
theorem upd_ne {R : Row} {p q : Nat} {v : Int32} (h : q ≠ p) : upd R p v q = R q := by simp [upd, h]
theorem pR_wa (j : Nat) (V : VV) (R : Row) (k w : Nat) (v : Int32) (h0 : 0 < k) (h : k < 8) : wI (pR j V R) (8 * j + k) w v = pR j V (upd R (sp w (k - 1)) v) := by
  apply vv_ext
  · intro c i
    by_cases hc : c = 8 * j + k
    · subst hc
      rw [wI_eq, pR_a j V (upd R (sp w (k - 1)) v) k i h0 h]
      by_cases hi : i = w
      · subst hi
        rw [upd_eq, upd_eq]
      · rw [upd_ne hi, pR_a j V R k i h0 h, upd_ne (by unfold sp; omega)]
    · rw [wI_ne hc]
      have e : ∀ q, q ≠ sp w (k - 1) → upd R (sp w (k - 1)) v q = R q := fun q h => upd_ne h
      have e0 := e 0 (by unfold sp; omega)
      have e1 := e 1 (by unfold sp; omega)
      have e2 := e 2 (by unfold sp; omega)
      have e3 := e 3 (by unfold sp; omega)
      unfold pR
      dsimp only
      rw [e0, e1, e2, e3]
      by_cases h8 : c = 8 * j
      · rw [if_pos h8, if_pos h8]
      · rw [if_neg h8, if_neg h8]
        by_cases h9 : 8 * j < c ∧ c < 8 * j + 8
        · rw [if_pos h9, if_pos h9, e _ (by unfold sp; omega)]
        · rw [if_neg h9, if_neg h9]
  · rfl
theorem pR_w1 (j : Nat) (V : VV) (R : Row) (w : Nat) (v : Int32) : wI (pR j V R) (8 * j + 1) w v = pR j V (upd R (sp w 0) v) := pR_wa j V R 1 w v (by omega) (by omega)
theorem pR_w2 (j : Nat) (V : VV) (R : Row) (w : Nat) (v : Int32) : wI (pR j V R) (8 * j + 2) w v = pR j V (upd R (sp w 1) v) := pR_wa j V R 2 w v (by omega) (by omega)
theorem pR_w3 (j : Nat) (V : VV) (R : Row) (w : Nat) (v : Int32) : wI (pR j V R) (8 * j + 3) w v = pR j V (upd R (sp w 2) v) := pR_wa j V R 3 w v (by omega) (by omega)
theorem pR_w4 (j : Nat) (V : VV) (R : Row) (w : Nat) (v : Int32) : wI (pR j V R) (8 * j + 4) w v = pR j V (upd R (sp w 3) v) := pR_wa j V R 4 w v (by omega) (by omega)
theorem pR_w5 (j : Nat) (V : VV) (R : Row) (w : Nat) (v : Int32) : wI (pR j V R) (8 * j + 5) w v = pR j V (upd R (sp w 4) v) := pR_wa j V R 5 w v (by omega) (by omega)
theorem pR_w6 (j : Nat) (V : VV) (R : Row) (w : Nat) (v : Int32) : wI (pR j V R) (8 * j + 6) w v = pR j V (upd R (sp w 5) v) := pR_wa j V R 6 w v (by omega) (by omega)
theorem pR_w7 (j : Nat) (V : VV) (R : Row) (w : Nat) (v : Int32) : wI (pR j V R) (8 * j + 7) w v = pR j V (upd R (sp w 6) v) := pR_wa j V R 7 w v (by omega) (by omega)
theorem pR_w0 (j : Nat) (V : VV) (R : Row) (q k : Nat) (v : Int32) (h : (q = 3 ∧ k = 0) ∨ (q = 0 ∧ k = 1) ∨ (q = 1 ∧ k = 2) ∨ (q = 2 ∧ k = 3)) : wI (pR j V R) (8 * j) q v = pR j V (upd R k v) := by
  apply vv_ext
  · intro c i
    by_cases hc : c = 8 * j
    · subst hc
      rw [wI_eq]
      simp only [upd, pR, if_true]
      rcases h with ⟨rfl, rfl⟩ | ⟨rfl, rfl⟩ | ⟨rfl, rfl⟩ | ⟨rfl, rfl⟩
      · by_cases h3 : i = 3
        · simp [h3]
        · simp [h3]
      · by_cases h3 : i = 0
        · simp [h3]
        · simp [h3]
      · by_cases h3 : i = 1
        · simp [h3]
        · simp [h3]
      · by_cases h3 : i = 2
        · simp [h3]
        · simp [h3]
    · rw [wI_ne hc]
      simp only [pR, upd, if_neg hc]
      by_cases h9 : 8 * j < c ∧ c < 8 * j + 8
      · simp only [if_pos h9]
        rw [if_neg (by omega)]
      · simp only [if_neg h9]
  · rfl
theorem pR_wn (j : Nat) (V : VV) (R : Row) (v : Int32) : wI (pR j V R) (8 * j) 3 v = pR j V (upd R 0 v) := pR_w0 j V R 3 0 v (by omega)
theorem pR_wt (j : Nat) (V : VV) (R : Row) (v : Int32) : wI (pR j V R) (8 * j) 0 v = pR j V (upd R 1 v) := pR_w0 j V R 0 1 v (by omega)
theorem pR_wf (j : Nat) (V : VV) (R : Row) (v : Int32) : wI (pR j V R) (8 * j) 1 v = pR j V (upd R 2 v) := pR_w0 j V R 1 2 v (by omega)
theorem pR_wv (j : Nat) (V : VV) (R : Row) (v : Int32) : wI (pR j V R) (8 * j) 2 v = pR j V (upd R 3 v) := pR_w0 j V R 2 3 v (by omega)
theorem mR_row (V : VV) : mR V (V.1 1) = V := by
  apply vv_ext
  · intro c k
    simp only [mR]
    by_cases h : c = 1
    · simp [h]
    · simp [h]
  · rfl
theorem mR_1 (V : VV) (R : Row) : (mR V R).1 1 = R := by simp [mR]
theorem mR_ne (V : VV) (R : Row) {c : Nat} (h : c ≠ 1) : (mR V R).1 c = V.1 c := by simp [mR, h]
theorem mR_2 (V : VV) (R : Row) : (mR V R).2 = V.2 := rfl
theorem mR_mR (V : VV) (R R' : Row) : mR (mR V R) R' = mR V R' := by
  apply vv_ext
  · intro c k
    simp only [mR]
    by_cases h : c = 1
    · simp [h]
    · simp [h]
  · rfl
theorem mR_w (V : VV) (R : Row) (p : Nat) (v : Int32) : wI (mR V R) 1 p v = mR V (upd R p v) := by
  apply vv_ext
  · intro c k
    by_cases h : c = 1
    · subst h
      rw [wI_eq, mR_1, mR_1]
    · rw [wI_ne h, mR_ne _ _ h, mR_ne _ _ h]
  · rfl
theorem upd_self (R : Row) (p : Nat) : upd R p (R p) = R := by
  funext q
  by_cases h : q = p
  · rw [h, upd_eq]
  · rw [upd_ne h]
theorem Z60.up {R : Row} (h : Z60 R) {p : Nat} {v : Int32} (hp : p < 60) : Z60 (upd R p v) := fun q hq => by rw [upd_ne (by omega)]; exact h q hq
theorem sp_lt {w k : Nat} (hw : w < 8) (hk : k < 7) : sp w k < 60 := by unfold sp; omega
theorem sp_inj {w k w' k' : Nat} (hk : k < 7) (hk' : k' < 7) (h : sp w k = sp w' k') : w = w' ∧ k = k' := by unfold sp at h; omega
theorem sp_ge (w k : Nat) : 4 ≤ sp w k := by unfold sp; omega
/-! numbers -/
theorem inb_nI {k n : Nat} (h : k < n) (hn : n < 2 ^ 31) : inb (nI k) n = true := in_inb (vp_in_nI h hn)
theorem cl_nI {k : Nat} (h : k < 2 ^ 31) : (nI k).toNatClampNeg = k := nI_clamp h
theorem spot_nI (w k : Nat) : (4 + 7 * nI w) + nI k = nI (sp w k) := by
  rw [show (4 : Int32) = nI 4 from rfl, show (7 : Int32) = nI 7 from rfl, pk_mul, nI_add, nI_add]
  rfl
/-- a loop that goes up -/
theorem loopF {α : Type} {F : Nat → Nat → α} {n : Nat} {res : α} (hexit : ∀ fuel, F (fuel + 1) n = res) (hstep : ∀ fuel w, w < n → F (fuel + 1) w = F fuel (w + 1)) : ∀ k w fuel, w + k = n → k < fuel → F fuel w = res := by
  intro k
  induction k with
  | zero =>
    intro w fuel h hf
    obtain ⟨f, rfl⟩ : ∃ f, fuel = f + 1 := ⟨fuel - 1, by omega⟩
    have : w = n := by omega
    subst this
    exact hexit f
  | succ k ih =>
    intro w fuel h hf
    obtain ⟨f, rfl⟩ : ∃ f, fuel = f + 1 := ⟨fuel - 1, by omega⟩
    rw [hstep f w (by omega)]
    exact ih (w + 1) f (by omega) (by omega)
