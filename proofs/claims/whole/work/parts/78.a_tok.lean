/-! ===== PURE: the reference's token ===== -/
def tM (V : VV) (f t v w : Int32) : VV := (fun x => if x = 0 then (fun k => if k = 10 then f else if k = 11 then t else if k = 12 then v else if k = 13 then w else V.1 0 k) else V.1 x, V.2)
theorem tM_k (V : VV) (f t v w : Int32) (k : Nat) : (tM V f t v w).1 0 k = if k = 10 then f else if k = 11 then t else if k = 12 then v else if k = 13 then w else V.1 0 k := by
  show (if 0 = 0 then (fun k => if k = 10 then f else if k = 11 then t else if k = 12 then v else if k = 13 then w else V.1 0 k) else V.1 0) k = _
  rw [if_pos rfl]
theorem tM_o (V : VV) (f t v w : Int32) {x : Nat} (h : x ≠ 0) : (tM V f t v w).1 x = V.1 x := by
  show (if x = 0 then (fun k => if k = 10 then f else if k = 11 then t else if k = 12 then v else if k = 13 then w else V.1 0 k) else V.1 x) = _
  rw [if_neg h]
theorem tM_10 (V : VV) (f t v w : Int32) : (tM V f t v w).1 0 10 = f := by rw [tM_k, if_pos rfl]
theorem tM_11 (V : VV) (f t v w : Int32) : (tM V f t v w).1 0 11 = t := by rw [tM_k, if_neg (by decide), if_pos rfl]
theorem tM_12 (V : VV) (f t v w : Int32) : (tM V f t v w).1 0 12 = v := by rw [tM_k, if_neg (by decide), if_neg (by decide), if_pos rfl]
theorem tM_13 (V : VV) (f t v w : Int32) : (tM V f t v w).1 0 13 = w := by rw [tM_k, if_neg (by decide), if_neg (by decide), if_neg (by decide), if_pos rfl]
theorem tM_lo (V : VV) (f t v w : Int32) {k : Nat} (h : k < 10) : (tM V f t v w).1 0 k = V.1 0 k := by rw [tM_k, if_neg (by omega), if_neg (by omega), if_neg (by omega), if_neg (by omega)]
theorem tM_6 (V : VV) (f t v w : Int32) : (tM V f t v w).1 6 = V.1 6 := tM_o V f t v w (by decide)
theorem tM_row (V : VV) : tM V (V.1 0 10) (V.1 0 11) (V.1 0 12) (V.1 0 13) = V := by
  refine vv_ext (fun x k => ?_) rfl
  by_cases hx : x = 0
  · subst hx
    rw [tM_k]
    by_cases h2 : k = 10
    · rw [if_pos h2, h2]
    · by_cases h3 : k = 11
      · rw [if_neg h2, if_pos h3, h3]
      · by_cases h4 : k = 12
        · rw [if_neg h2, if_neg h3, if_pos h4, h4]
        · by_cases h5 : k = 13
          · rw [if_neg h2, if_neg h3, if_neg h4, if_pos h5, h5]
          · rw [if_neg h2, if_neg h3, if_neg h4, if_neg h5]
  · rw [tM_o _ _ _ _ _ hx]
theorem tM_w10 (V : VV) (f t v w u : Int32) : wI (tM V f t v w) 0 10 u = tM V u t v w := by
  refine vv_ext (fun x k => ?_) rfl
  by_cases hx : x = 0
  · subst hx
    rw [wI_eq, tM_k]
    by_cases hk : k = 10
    · subst hk; rw [upd_eq]; simp
    · rw [upd_ne hk, tM_k]; simp only [if_neg hk]
  · rw [wI_ne hx, tM_o _ _ _ _ _ hx, tM_o _ _ _ _ _ hx]
theorem tM_w11 (V : VV) (f t v w u : Int32) : wI (tM V f t v w) 0 11 u = tM V f u v w := by
  refine vv_ext (fun x k => ?_) rfl
  by_cases hx : x = 0
  · subst hx
    rw [wI_eq, tM_k]
    by_cases hk : k = 11
    · subst hk; rw [upd_eq]; simp
    · rw [upd_ne hk, tM_k]; simp only [if_neg hk]
  · rw [wI_ne hx, tM_o _ _ _ _ _ hx, tM_o _ _ _ _ _ hx]
theorem tM_w12 (V : VV) (f t v w u : Int32) : wI (tM V f t v w) 0 12 u = tM V f t u w := by
  refine vv_ext (fun x k => ?_) rfl
  by_cases hx : x = 0
  · subst hx
    rw [wI_eq, tM_k]
    by_cases hk : k = 12
    · subst hk; rw [upd_eq]; simp
    · rw [upd_ne hk, tM_k]; simp only [if_neg hk]
  · rw [wI_ne hx, tM_o _ _ _ _ _ hx, tM_o _ _ _ _ _ hx]
theorem tM_w13 (V : VV) (f t v w u : Int32) : wI (tM V f t v w) 0 13 u = tM V f t v u := by
  refine vv_ext (fun x k => ?_) rfl
  by_cases hx : x = 0
  · subst hx
    rw [wI_eq, tM_k]
    by_cases hk : k = 13
    · subst hk; rw [upd_eq]; simp
    · rw [upd_ne hk, tM_k]; simp only [if_neg hk]
  · rw [wI_ne hx, tM_o _ _ _ _ _ hx, tM_o _ _ _ _ _ hx]
theorem m_byteY {B : Nat → Nat} {L : Nat} {V : VV} (hL : V.1 0 9 = nI L) (hL2 : L ≤ 120) (hB : ∀ k, V.1 6 k = nI (B k)) {p : Nat} (hp : p < L) : f_X4_byteAt (nI p) V = some (nI (B p), V) := by
  unfold f_X4_byteAt
  rw [hL, if_neg (nI_ge hp (by omega)), inb_nI (show p < 120 by omega) (by decide), itt, cl_nI (by omega), hB]
theorem m_byteN {L : Nat} {V : VV} (hL : V.1 0 9 = nI L) {p : Nat} (hp : L ≤ p) (hp2 : p ≤ 120) : f_X4_byteAt (nI p) V = some (-1, V) := by
  unfold f_X4_byteAt
  rw [hL, if_pos (nI_le hp (by omega))]
theorem m_run1 {B : Nat → Nat} {L : Nat} {V : VV} {f0 v w : Int32} (hL : V.1 0 9 = nI L) (hL2 : L ≤ 120) (hB : ∀ k, V.1 6 k = nI (B k)) (hb : ∀ k, B k < 256) : ∀ d i fuel, i + d = L → d < fuel → f_X4_token_L86 fuel 1 0 (tM V f0 (nI i) v w) = some (tM V f0 (nI (tkRF B 1 d i)) v w) := by
  have gL : ∀ t, (tM V f0 t v w).1 0 9 = nI L := fun t => by rw [tM_lo _ _ _ _ _ (by decide)]; exact hL
  have gB : ∀ t k, (tM V f0 t v w).1 6 k = nI (B k) := fun t k => by rw [tM_6]; exact hB k
  intro d
  induction d with
  | zero =>
    intro i fuel hi hf
    obtain ⟨f, rfl⟩ : ∃ f, fuel = f + 1 := ⟨fuel - 1, by omega⟩
    rw [f_X4_token_L86, if_neg (show ¬ (1 : Int32) = 0 by decide), tM_11, m_byteN (gL _) (by omega) (by omega), Option.bind_some]
    dsimp only
    rw [m_letterE, Option.bind_some]
    dsimp only
    rw [if_pos (show (0 : Int32) = 0 from rfl), if_pos (show (0 : Int32) = 0 from rfl)]
    rfl
  | succ d ih =>
    intro i fuel hi hf
    obtain ⟨f, rfl⟩ : ∃ f, fuel = f + 1 := ⟨fuel - 1, by omega⟩
    rw [f_X4_token_L86, if_neg (show ¬ (1 : Int32) = 0 by decide), tM_11, m_byteY (gL _) hL2 (gB _) (show i < L by omega), Option.bind_some]
    dsimp only
    rw [m_letterB _ (hb i), Option.bind_some]
    dsimp only
    unfold tkRF
    by_cases h : tkC (B i) = 1
    · rw [if_pos h, if_pos h, if_neg (show ¬ (1 : Int32) = 0 by decide), tM_11, tM_w11, bV_e, nI_succ']
      exact ih (i + 1) f (by omega) (by omega)
    · rw [if_neg h, if_neg h, if_pos (show (0 : Int32) = 0 from rfl), if_pos (show (0 : Int32) = 0 from rfl)]
theorem m_run2 {B : Nat → Nat} {L : Nat} {V : VV} {f0 v w : Int32} (hL : V.1 0 9 = nI L) (hL2 : L ≤ 120) (hB : ∀ k, V.1 6 k = nI (B k)) (hb : ∀ k, B k < 256) : ∀ d i fuel, i + d = L → d < fuel → f_X4_token_L86 fuel 0 1 (tM V f0 (nI i) v w) = some (tM V f0 (nI (tkRF B 2 d i)) v w) := by
  have gL : ∀ t, (tM V f0 t v w).1 0 9 = nI L := fun t => by rw [tM_lo _ _ _ _ _ (by decide)]; exact hL
  have gB : ∀ t k, (tM V f0 t v w).1 6 k = nI (B k) := fun t k => by rw [tM_6]; exact hB k
  intro d
  induction d with
  | zero =>
    intro i fuel hi hf
    obtain ⟨f, rfl⟩ : ∃ f, fuel = f + 1 := ⟨fuel - 1, by omega⟩
    rw [f_X4_token_L86, if_pos (show (0 : Int32) = 0 from rfl), if_neg (show ¬ (1 : Int32) = 0 by decide), tM_11, m_byteN (gL _) (by omega) (by omega), Option.bind_some]
    dsimp only
    rw [m_digitE, Option.bind_some]
    dsimp only
    rw [if_pos (show (0 : Int32) = 0 from rfl)]
    rfl
  | succ d ih =>
    intro i fuel hi hf
    obtain ⟨f, rfl⟩ : ∃ f, fuel = f + 1 := ⟨fuel - 1, by omega⟩
    rw [f_X4_token_L86, if_pos (show (0 : Int32) = 0 from rfl), if_neg (show ¬ (1 : Int32) = 0 by decide), tM_11, m_byteY (gL _) hL2 (gB _) (show i < L by omega), Option.bind_some]
    dsimp only
    rw [m_digitB _ (hb i), Option.bind_some]
    dsimp only
    unfold tkRF
    by_cases h : tkC (B i) = 2
    · rw [if_pos h, if_pos h, if_neg (show ¬ (1 : Int32) = 0 by decide), tM_11, tM_w11, bV_e, nI_succ']
      exact ih (i + 1) f (by omega) (by omega)
    · rw [if_neg h, if_neg h, if_pos (show (0 : Int32) = 0 from rfl)]
theorem m_run0 (f : Nat) (V : VV) : f_X4_token_L86 (f + 1) 0 0 V = some V := by
  rw [f_X4_token_L86, if_pos (show (0 : Int32) = 0 from rfl), if_pos (show (0 : Int32) = 0 from rfl)]
theorem m_fin {B : Nat → Nat} {L : Nat} {V : VV} {t v w : Int32} (hL : V.1 0 9 = nI L) (hL2 : L ≤ 120) (hB : ∀ k, V.1 6 k = nI (B k)) (hb : ∀ k, B k < 256) {st fuel : Nat} (hst : st ≤ L) (hn : st < L → B st ≠ 32) : f_X4_token_L8 (fuel + 1) (tM V (nI st) t v w) = some (tM V (nI st) (nI (tkE B L st)) v w) := by
  have gL : (tM V (nI st) t v w).1 0 9 = nI L := by rw [tM_lo _ _ _ _ _ (by decide)]; exact hL
  have gB : ∀ k, (tM V (nI st) t v w).1 6 k = nI (B k) := fun k => by rw [tM_6]; exact hB k
  by_cases hl : st < L
  · have h32 : ¬ nI (B st) = (32 : Int32) := fun z => hn hl ((nI_eq (b := 32) (by have := hb st; omega) (by decide)).mp z)
    have hby := m_byteY gL hL2 gB hl
    rw [f_X4_token_L8, tM_10, hby, Option.bind_some]
    dsimp only
    rw [if_neg h32, tM_10, hby, Option.bind_some]
    dsimp only
    rw [m_letterB _ (hb st), Option.bind_some]
    dsimp only
    rw [tM_10, hby, Option.bind_some]
    dsimp only
    rw [m_digitB _ (hb st), Option.bind_some]
    dsimp only
    rw [gL, tM_10, if_neg (nI_ge hl (by omega)), nI_succ', tM_w11, bV_e]
    by_cases h1 : tkC (B st) = 1
    · have hE1 : tkE B L st = tkRF B 1 (L - (st + 1)) (st + 1) := by
        unfold tkE; rw [if_pos hl, if_pos (Or.inl h1), h1]
      rw [if_pos h1, if_neg (show ¬ tkC (B st) = 2 by omega), m_run1 hL hL2 hB hb (L - (st + 1)) (st + 1) 200 (by omega) (by omega), hE1]
    · by_cases h2 : tkC (B st) = 2
      · have hE1 : tkE B L st = tkRF B 2 (L - (st + 1)) (st + 1) := by
          unfold tkE; rw [if_pos hl, if_pos (Or.inr h2), h2]
        rw [if_neg h1, if_pos h2, m_run2 hL hL2 hB hb (L - (st + 1)) (st + 1) 200 (by omega) (by omega), hE1]
      · have hE1 : tkE B L st = st + 1 := by
          unfold tkE; rw [if_pos hl, if_neg (fun z => z.elim h1 h2)]
        rw [if_neg h1, if_neg h2, m_run0, hE1]
  · have hE1 : tkE B L st = st := by unfold tkE; rw [if_neg hl]
    have hby := m_byteN gL (p := st) (by omega) (by omega)
    rw [f_X4_token_L8, tM_10, hby, Option.bind_some]
    dsimp only
    rw [if_neg (show ¬ (-1 : Int32) = 32 by decide), tM_10, hby, Option.bind_some]
    dsimp only
    rw [m_letterE, Option.bind_some]
    dsimp only
    rw [tM_10, hby, Option.bind_some]
    dsimp only
    rw [m_digitE, Option.bind_some]
    dsimp only
    rw [gL, tM_10, if_pos (nI_le (show L ≤ st by omega) (by omega)), tM_w11, bV_e, m_run0, hE1]
theorem m_tokL {B : Nat → Nat} {L : Nat} {V : VV} {t v w : Int32} (hL : V.1 0 9 = nI L) (hL2 : L ≤ 120) (hB : ∀ k, V.1 6 k = nI (B k)) (hb : ∀ k, B k < 256) : ∀ d p fuel, p + d = L → d < fuel → f_X4_token_L8 fuel (tM V (nI p) t v w) = some (tM V (nI (tkSF B d p)) (nI (tkE B L (tkSF B d p))) v w) := by
  intro d
  induction d with
  | zero =>
    intro p fuel hp hf
    obtain ⟨f, rfl⟩ : ∃ f, fuel = f + 1 := ⟨fuel - 1, by omega⟩
    exact m_fin hL hL2 hB hb (by omega) (fun h => absurd h (by omega))
  | succ d ih =>
    intro p fuel hp hf
    obtain ⟨f, rfl⟩ : ∃ f, fuel = f + 1 := ⟨fuel - 1, by omega⟩
    unfold tkSF
    by_cases h : B p = 32
    · have gL : (tM V (nI p) t v w).1 0 9 = nI L := by rw [tM_lo _ _ _ _ _ (by decide)]; exact hL
      have gB : ∀ k, (tM V (nI p) t v w).1 6 k = nI (B k) := fun k => by rw [tM_6]; exact hB k
      rw [if_pos h, f_X4_token_L8, tM_10, m_byteY gL hL2 gB (show p < L by omega), Option.bind_some]
      dsimp only
      rw [if_pos (show nI (B p) = 32 by rw [h]; rfl), tM_10, tM_w10, bV_e, nI_succ']
      exact ih (p + 1) f (by omega) (by omega)
    · rw [if_neg h]
      exact m_fin hL hL2 hB hb (by omega) (fun _ => h)
theorem m_token {B : Nat → Nat} {L : Nat} {V : VV} (hL : V.1 0 9 = nI L) (hL2 : L ≤ 120) (hB : ∀ k, V.1 6 k = nI (B k)) (hb : ∀ k, B k < 256) {p : Nat} (hp : p ≤ L) (h4 : V.1 0 11 = nI p) : f_X4_token V = some (tM V (nI (tkS B L p)) (nI (tkE B L (tkS B L p))) (V.1 0 12) (V.1 0 13)) := by
  have key := m_tokL (t := V.1 0 11) (v := V.1 0 12) (w := V.1 0 13) hL hL2 hB hb (L - p) p 200 (by omega) (by omega)
  unfold f_X4_token
  have e : wI V 0 10 (V.1 0 11) = tM V (nI p) (V.1 0 11) (V.1 0 12) (V.1 0 13) := by
    rw [← h4, ← tM_w10 V (V.1 0 10), tM_row]
  rw [e, bV_e]
  exact key
