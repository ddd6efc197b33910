/-! ===== PURE: the meeting; walkers by numbers, or cells by numbers ===== -/
def hit (R : Row) (c : Int32) (x : Nat) : Bool := decide (R (sp x 5) = -1) && decide (R (sp x 1) = c)
def pend (R : Row) (c : Int32) : Nat → Option Nat
  | 0 => none
  | w + 1 => if hit R c w = true then (match pend R c w with | none => some w | some _ => none) else pend R c w
def nfF (R : Row) (c : Int32) : Nat → Nat → Nat
  | 0, k => k
  | d + 1, k => if hit R c k = true then k else nfF R c d (k + 1)
def bail (R : Row) (x : Nat) : Bool := decide (R (sp x 0) = 5) && decide (R (sp x 1) = R (sp x 2))
def nxt (R : Row) (n x : Nat) : Nat := nfF R (R (sp x 1)) (n - (x + 1)) (x + 1)
def mtR (R : Row) (n x : Nat) : Option Nat := if R (sp x 5) = -1 then (match pend R (R (sp x 1)) x with | some u => some u | none => if nxt R n x < n then some (nxt R n x) else if bail R x = true then some x else none) else none
def appR (R : Row) (n : Nat) (D : Nat → Bool) : Row := fun p => if 4 ≤ p ∧ (p - 4) / 7 < n ∧ D ((p - 4) / 7) = true then (match mtR R n ((p - 4) / 7) with | some y => if (p - 4) % 7 = 5 then nI y else if (p - 4) % 7 = 6 then R (sp y 4) else R p | none => R p) else R p
theorem hit_iff {R : Row} {c : Int32} {x : Nat} : hit R c x = true ↔ R (sp x 5) = -1 ∧ R (sp x 1) = c := by unfold hit; simp
theorem p_cases (p : Nat) : p < 4 ∨ ∃ a b, b < 7 ∧ p = sp a b := by
  by_cases h : p < 4
  · exact Or.inl h
  · exact Or.inr ⟨(p - 4) / 7, (p - 4) % 7, by omega, by unfold sp; omega⟩
theorem app_low {R : Row} {n : Nat} {D : Nat → Bool} {p : Nat} (h : p < 4) : appR R n D p = R p := by unfold appR; rw [if_neg (by omega)]
theorem app_sp {R : Row} {n : Nat} {D : Nat → Bool} {a b : Nat} (hb : b < 7) : appR R n D (sp a b) = if a < n ∧ D a = true then (match mtR R n a with | some y => if b = 5 then nI y else if b = 6 then R (sp y 4) else R (sp a b) | none => R (sp a b)) else R (sp a b) := by
  unfold appR
  have e1 : (sp a b - 4) / 7 = a := by unfold sp; omega
  have e2 : (sp a b - 4) % 7 = b := by unfold sp; omega
  rw [e1, e2]
  by_cases h : a < n ∧ D a = true
  · rw [if_pos ⟨sp_ge a b, h.1, h.2⟩, if_pos h]
  · rw [if_neg (fun z => h z.2), if_neg h]
theorem app_o {R : Row} {n : Nat} {D : Nat → Bool} {a b : Nat} (hb : b < 7) (h5 : b ≠ 5) (h6 : b ≠ 6) : appR R n D (sp a b) = R (sp a b) := by
  rw [app_sp hb]
  split
  · split
    · first | rfl | rw [if_neg h5, if_neg h6]
    · rfl
  · rfl
theorem app_ext {R : Row} {n : Nat} {D D' : Nat → Bool} (h : ∀ x, x < n → mtR R n x ≠ none → D x = D' x) : appR R n D = appR R n D' := by
  funext p
  rcases p_cases p with hp | ⟨a, b, hb, rfl⟩
  · rw [app_low hp, app_low hp]
  · rw [app_sp hb, app_sp hb]
    by_cases ha : a < n
    · cases hm : mtR R n a with
      | none => dsimp only; split <;> split <;> rfl
      | some y => rw [h a ha (by rw [hm]; simp)]
    · rw [if_neg (fun z => ha z.1), if_neg (fun z => ha z.1)]
theorem nI_m1 {q : Nat} (h : q < 2 ^ 31) : ¬ nI q = -1 := by
  intro e
  have := nI_pos (n := q) h
  rw [e] at this
  exact this (by decide)
/-- what is free in a row that has been gone through in part -/
theorem app_free {R : Row} {n : Nat} {D : Nat → Bool} {x : Nat} (hm : ∀ y, mtR R n x = some y → y < n) (h8 : n ≤ 8) : appR R n D (sp x 5) = -1 ↔ R (sp x 5) = -1 ∧ ¬ (x < n ∧ D x = true ∧ mtR R n x ≠ none) := by
  rw [app_sp (by decide)]
  by_cases h : x < n ∧ D x = true
  · rw [if_pos h]
    cases e : mtR R n x with
    | none => simp
    | some y =>
      have hy := hm y e
      simp only [if_true]
      constructor
      · intro z; exact absurd z (nI_m1 (by omega))
      · intro z; exact absurd ⟨h.1, h.2, by simp⟩ z.2
  · rw [if_neg h]
    constructor
    · intro z; exact ⟨z, fun y => h ⟨y.1, y.2.1⟩⟩
    · intro z; exact z.1
theorem pend_1 {R : Row} {c : Int32} : ∀ {w u : Nat}, pend R c w = some u → u < w ∧ hit R c u = true ∧ pend R c u = none ∧ ∀ k, u < k → k < w → hit R c k = false := by
  intro w
  induction w with
  | zero => intro u h; cases h
  | succ w ih =>
    intro u h
    unfold pend at h
    by_cases hh : hit R c w = true
    · rw [if_pos hh] at h
      cases e : pend R c w with
      | none =>
        rw [e] at h
        cases h
        exact ⟨by omega, hh, e, fun k h1 h2 => by omega⟩
      | some v => rw [e] at h; cases h
    · rw [if_neg hh] at h
      obtain ⟨h1, h2, h3, h4⟩ := ih h
      refine ⟨by omega, h2, h3, fun k k1 k2 => ?_⟩
      by_cases e : k = w
      · rw [e]; simpa using hh
      · exact h4 k k1 (by omega)
theorem pend_2 {R : Row} {c : Int32} {u : Nat} (hu : hit R c u = true) (hp : pend R c u = none) : ∀ d, (∀ k, u < k → k < u + 1 + d → hit R c k = false) → pend R c (u + 1 + d) = some u := by
  intro d
  induction d with
  | zero => intro _; show pend R c (u + 1) = some u; unfold pend; rw [if_pos hu, hp]
  | succ d ih =>
    intro h
    show pend R c ((u + 1 + d) + 1) = some u
    unfold pend
    rw [if_neg (by rw [h (u + 1 + d) (by omega) (by omega)]; decide)]
    exact ih (fun k h1 h2 => h k h1 (by omega))
theorem nfF_1 {R : Row} {c : Int32} : ∀ (d k : Nat), k ≤ nfF R c d k ∧ nfF R c d k ≤ k + d ∧ (∀ i, k ≤ i → i < nfF R c d k → hit R c i = false) ∧ (nfF R c d k < k + d → hit R c (nfF R c d k) = true) := by
  intro d
  induction d with
  | zero => intro k; exact ⟨Nat.le_refl _, Nat.le_refl _, fun i h1 h2 => absurd h2 (by unfold nfF; omega), fun h => absurd h (by unfold nfF; omega)⟩
  | succ d ih =>
    intro k
    unfold nfF
    by_cases hh : hit R c k = true
    · rw [if_pos hh]
      exact ⟨Nat.le_refl _, by omega, fun i h1 h2 => by omega, fun _ => hh⟩
    · rw [if_neg hh]
      obtain ⟨h1, h2, h3, h4⟩ := ih (k + 1)
      refine ⟨by omega, by omega, fun i i1 i2 => ?_, fun h => h4 (by omega)⟩
      by_cases e : i = k
      · rw [e]; simpa using hh
      · exact h3 i (by omega) i2
theorem nxt_1 {R : Row} {n x : Nat} (hx : x < n) : x < nxt R n x ∧ nxt R n x ≤ n ∧ (∀ i, x < i → i < nxt R n x → hit R (R (sp x 1)) i = false) ∧ (nxt R n x < n → hit R (R (sp x 1)) (nxt R n x) = true) := by
  obtain ⟨h1, h2, h3, h4⟩ := nfF_1 (R := R) (c := R (sp x 1)) (n - (x + 1)) (x + 1)
  exact ⟨by unfold nxt; omega, by unfold nxt; omega, fun i a b => h3 i a b, fun h => h4 (by unfold nxt at h; omega)⟩
theorem nxt_u {R : Row} {n x y : Nat} (hx : x < n) (hxy : x < y) (hy : y < n) (hh : hit R (R (sp x 1)) y = true) (hn : ∀ k, x < k → k < y → hit R (R (sp x 1)) k = false) : nxt R n x = y := by
  obtain ⟨h1, h2, h3, h4⟩ := nxt_1 (R := R) hx
  rcases Nat.lt_trichotomy (nxt R n x) y with h | h | h
  · have := hn _ h1 h
    rw [h4 (by omega)] at this
    cases this
  · exact h
  · have := h3 y hxy h
    rw [hh] at this
    cases this
theorem mt_pend {R : Row} {n x u : Nat} (hf : R (sp x 5) = -1) (hp : pend R (R (sp x 1)) x = some u) : mtR R n x = some u := by unfold mtR; rw [if_pos hf, hp]
theorem mt_none {R : Row} {n x : Nat} (hf : ¬ R (sp x 5) = -1) : mtR R n x = none := by unfold mtR; rw [if_neg hf]
theorem mt_nxt {R : Row} {n x : Nat} (hf : R (sp x 5) = -1) (hp : pend R (R (sp x 1)) x = none) : mtR R n x = if nxt R n x < n then some (nxt R n x) else if bail R x = true then some x else none := by unfold mtR; rw [if_pos hf, hp]
theorem mt_sym {R : Row} {n x y : Nat} (hx : x < n) (h : mtR R n x = some y) : y < n ∧ mtR R n y = some x ∧ R (sp y 1) = R (sp x 1) := by
  by_cases hf : R (sp x 5) = -1
  · cases hp : pend R (R (sp x 1)) x with
    | some u =>
      rw [mt_pend hf hp] at h
      cases h
      obtain ⟨h1, h2, h3, h4⟩ := pend_1 hp
      obtain ⟨g1, g2⟩ := hit_iff.mp h2
      refine ⟨by omega, ?_, g2⟩
      have hn : nxt R n y = x := nxt_u (by omega) h1 hx (by rw [g2]; exact hit_iff.mpr ⟨hf, rfl⟩) (fun k a b => by rw [g2]; exact h4 k a b)
      rw [mt_nxt g1 (by rw [g2]; exact h3), hn, if_pos hx]
    | none =>
      rw [mt_nxt hf hp] at h
      by_cases hn : nxt R n x < n
      · rw [if_pos hn] at h
        cases h
        obtain ⟨h1, h2, h3, h4⟩ := nxt_1 (R := R) hx
        obtain ⟨g1, g2⟩ := hit_iff.mp (h4 hn)
        refine ⟨hn, ?_, g2⟩
        refine mt_pend g1 ?_
        rw [g2]
        have := pend_2 (R := R) (c := R (sp x 1)) (u := x) (hit_iff.mpr ⟨hf, rfl⟩) hp (nxt R n x - (x + 1)) (fun k a b => h3 k a (by omega))
        rw [show x + 1 + (nxt R n x - (x + 1)) = nxt R n x by omega] at this
        exact this
      · rw [if_neg hn] at h
        by_cases hb : bail R x = true
        · rw [if_pos hb] at h
          cases h
          exact ⟨hx, by rw [mt_nxt hf hp, if_neg hn, if_pos hb], rfl⟩
        · rw [if_neg hb] at h; cases h
  · rw [mt_none hf] at h; cases h
theorem app_keep {R : Row} {n x y : Nat} {D D' : Nat → Bool} (hx : x < n) (h : mtR R n x = some y) (hD : ∀ z, z < n → mtR R n z ≠ none → (D' z = true ↔ D z = true ∨ z = x ∨ z = y)) : keepR x y (appR R n D) = appR R n D' := by
  obtain ⟨hy, hs, -⟩ := mt_sym hx h
  funext p
  unfold keepR
  rw [app_o (a := y) (b := 4) (by decide) (by decide) (by decide), app_o (a := x) (b := 4) (by decide) (by decide) (by decide)]
  have dx : D' x = true := (hD x hx (by rw [h]; simp)).mpr (Or.inr (Or.inl rfl))
  have dy : D' y = true := (hD y hy (by rw [hs]; simp)).mpr (Or.inr (Or.inr rfl))
  by_cases p1 : p = sp y 6
  · rw [p1, upd_eq, app_sp (by decide), if_pos ⟨hy, dy⟩, hs]; simp
  · rw [upd_ne p1]
    by_cases p2 : p = sp x 6
    · rw [p2, upd_eq, app_sp (by decide), if_pos ⟨hx, dx⟩, h]; simp
    · rw [upd_ne p2]
      by_cases p3 : p = sp y 5
      · rw [p3, upd_eq, app_sp (by decide), if_pos ⟨hy, dy⟩, hs]; simp
      · rw [upd_ne p3]
        by_cases p4 : p = sp x 5
        · rw [p4, upd_eq, app_sp (by decide), if_pos ⟨hx, dx⟩, h]; simp
        · rw [upd_ne p4]
          rcases p_cases p with hp | ⟨a, b, hb, rfl⟩
          · rw [app_low hp, app_low hp]
          · by_cases h5 : b = 5
            · subst h5
              have ax : a ≠ x := fun e => p4 (by rw [e])
              have ay : a ≠ y := fun e => p3 (by rw [e])
              rw [app_sp hb, app_sp hb]
              by_cases ha : a < n
              · cases hm : mtR R n a with
                | none => dsimp only; split <;> split <;> rfl
                | some z =>
                  have e := hD a ha (by rw [hm]; simp)
                  have e2 : D' a = true ↔ D a = true := by rw [e]; simp [ax, ay]
                  by_cases hd : D a = true
                  · rw [if_pos ⟨ha, hd⟩, if_pos ⟨ha, e2.mpr hd⟩]
                  · rw [if_neg (fun q => hd q.2), if_neg (fun q => hd (e2.mp q.2))]
              · rw [if_neg (fun q => ha q.1), if_neg (fun q => ha q.1)]
            · by_cases h6 : b = 6
              · subst h6
                have ax : a ≠ x := fun e => p2 (by rw [e])
                have ay : a ≠ y := fun e => p1 (by rw [e])
                rw [app_sp hb, app_sp hb]
                by_cases ha : a < n
                · cases hm : mtR R n a with
                  | none => dsimp only; split <;> split <;> rfl
                  | some z =>
                    have e := hD a ha (by rw [hm]; simp)
                    have e2 : D' a = true ↔ D a = true := by rw [e]; simp [ax, ay]
                    by_cases hd : D a = true
                    · rw [if_pos ⟨ha, hd⟩, if_pos ⟨ha, e2.mpr hd⟩]
                    · rw [if_neg (fun q => hd q.2), if_neg (fun q => hd (e2.mp q.2))]
                · rw [if_neg (fun q => ha q.1), if_neg (fun q => ha q.1)]
              · rw [app_o hb h5 h6, app_o hb h5 h6]
/-! the class's way -/
def colR (n w : Nat) (Q : Row) : Row := if Q (sp w 5) = -1 then (if nxt Q n w < n then keepR w (nxt Q n w) Q else if bail Q w = true then keepR w w Q else Q) else Q
def Dc (R : Row) (n w x : Nat) : Bool := decide (x < w) || (match mtR R n x with | some y => decide (y < w) | none => false)
theorem Dc_iff {R : Row} {n w x y : Nat} (h : mtR R n x = some y) : Dc R n w x = true ↔ x < w ∨ y < w := by unfold Dc; rw [h]; simp
theorem col_app {R : Row} {n : Nat} (h8 : n ≤ 8) : ∀ w, w ≤ n → itW (colR n) w R = appR R n (Dc R n w) := by
  intro w
  induction w with
  | zero =>
    intro _
    funext p
    rcases p_cases p with hp | ⟨a, b, hb, rfl⟩
    · rw [app_low hp]; rfl
    · rw [app_sp hb]
      cases hm : mtR R n a with
      | none => dsimp only; split <;> rfl
      | some y => rw [if_neg (fun q => by have := (Dc_iff hm).mp q.2; omega)]; rfl
  | succ w ih =>
    intro hw
    show colR n w (itW (colR n) w R) = _
    rw [ih (by omega)]
    have hmn : ∀ y, mtR R n w = some y → y < n := fun y h => (mt_sym (by omega) h).1
    have hfree := app_free (R := R) (D := Dc R n w) (x := w) hmn h8
    have same : (∀ y, mtR R n w = some y → y < w) → appR R n (Dc R n w) = appR R n (Dc R n (w + 1)) := by
      intro hlt
      apply app_ext
      intro x hx hm
      cases e : mtR R n x with
      | none => exact absurd e hm
      | some y =>
        have h1 := Dc_iff (w := w) e
        have h2 := Dc_iff (w := w + 1) e
        have : (x < w ∨ y < w) ↔ (x < w + 1 ∨ y < w + 1) := by
          constructor
          · intro z; omega
          · intro z
            by_cases ex : x = w
            · subst ex; have := hlt y e; omega
            · by_cases ey : y = w
              · subst ey; have := hlt x (mt_sym hx e).2.1; omega
              · omega
        rw [Bool.eq_iff_iff, h1, h2]
        exact this
    unfold colR
    by_cases hf : R (sp w 5) = -1
    · cases hp : pend R (R (sp w 1)) w with
      | some u =>
        have hm := mt_pend (n := n) hf hp
        have hu := (pend_1 hp).1
        rw [if_neg (fun z => (hfree.mp z).2 ⟨by omega, (Dc_iff hm).mpr (Or.inr hu), by rw [hm]; simp⟩)]
        exact same (fun y h => by rw [hm] at h; cases h; exact hu)
      | none =>
        have hm := mt_nxt (n := n) hf hp
        have hge : ∀ y, mtR R n w = some y → w ≤ y := by
          intro y h
          rw [hm] at h
          have := (nxt_1 (R := R) (show w < n by omega)).1
          by_cases a : nxt R n w < n
          · rw [if_pos a] at h; cases h; omega
          · rw [if_neg a] at h
            by_cases b : bail R w = true
            · rw [if_pos b] at h; cases h; omega
            · rw [if_neg b] at h; cases h
        rw [if_pos (hfree.mpr ⟨hf, fun z => by
          cases e : mtR R n w with
          | none => exact z.2.2 e
          | some y => have := (Dc_iff e).mp z.2.1; have := hge y e; omega⟩)]
        have hcell : appR R n (Dc R n w) (sp w 1) = R (sp w 1) := app_o (by decide) (by decide) (by decide)
        obtain ⟨n1, n2, n3, n4⟩ := nxt_1 (R := R) (show w < n by omega)
        have hnx : nxt (appR R n (Dc R n w)) n w = nxt R n w := by
          have hh : ∀ k, w < k → k < n → (∀ i, w < i → i < k → hit R (R (sp w 1)) i = false) → hit (appR R n (Dc R n w)) (R (sp w 1)) k = hit R (R (sp w 1)) k := by
            intro k k1 k2 hbet
            rw [Bool.eq_iff_iff, hit_iff, hit_iff, app_o (a := k) (b := 1) (by decide) (by decide) (by decide), app_free (fun y h => (mt_sym k2 h).1) h8]
            constructor
            · intro z; exact ⟨z.1.1, z.2⟩
            · intro z
              refine ⟨⟨z.1, fun q => ?_⟩, z.2⟩
              have hpk : pend R (R (sp k 1)) k = some w := by
                rw [z.2]
                have := pend_2 (R := R) (c := R (sp w 1)) (u := w) (hit_iff.mpr ⟨hf, rfl⟩) hp (k - (w + 1)) (fun i a b => hbet i a (by omega))
                rw [show w + 1 + (k - (w + 1)) = k by omega] at this
                exact this
              have := (Dc_iff (mt_pend (n := n) z.1 hpk)).mp q.2.1
              omega
          by_cases a : nxt R n w < n
          · refine nxt_u (by omega) n1 a ?_ ?_
            · rw [hcell, hh _ n1 a n3]; exact n4 a
            · intro k k1 k2
              rw [hcell, hh k k1 (by omega) (fun i i1 i2 => n3 i i1 (by omega))]
              exact n3 k k1 k2
          · obtain ⟨m1, m2, m3, m4⟩ := nxt_1 (R := appR R n (Dc R n w)) (show w < n by omega)
            by_cases b : nxt (appR R n (Dc R n w)) n w < n
            · have e := m4 b
              rw [hcell, hh _ m1 b (fun i i1 i2 => n3 i i1 (by omega)), n3 _ m1 (by omega)] at e
              cases e
            · omega
        rw [hnx]
        by_cases a : nxt R n w < n
        · rw [if_pos a]
          have hm' : mtR R n w = some (nxt R n w) := by rw [hm, if_pos a]
          refine app_keep (by omega) hm' (fun z hz hz2 => ?_)
          cases e : mtR R n z with
          | none => exact absurd e hz2
          | some y =>
            rw [Dc_iff e, Dc_iff e]
            constructor
            · intro q
              by_cases ez : z = w
              · exact Or.inr (Or.inl ez)
              · by_cases ey : y = w
                · subst ey
                  have := (mt_sym hz e).2.1
                  rw [hm'] at this
                  cases this
                  exact Or.inr (Or.inr rfl)
                · exact Or.inl (by omega)
            · intro q
              rcases q with q | q | q
              · omega
              · omega
              · subst q
                have := (mt_sym (by omega) hm').2.1
                rw [e] at this
                cases this
                omega
        · rw [if_neg a]
          have hbb : bail (appR R n (Dc R n w)) w = bail R w := by
            unfold bail
            rw [app_o (a := w) (b := 0) (by decide) (by decide) (by decide), hcell, app_o (a := w) (b := 2) (by decide) (by decide) (by decide)]
          rw [hbb]
          by_cases b : bail R w = true
          · rw [if_pos b]
            have hm' : mtR R n w = some w := by rw [hm, if_neg a, if_pos b]
            refine app_keep (by omega) hm' (fun z hz hz2 => ?_)
            cases e : mtR R n z with
            | none => exact absurd e hz2
            | some y =>
              rw [Dc_iff e, Dc_iff e]
              constructor
              · intro q
                by_cases ez : z = w
                · exact Or.inr (Or.inl ez)
                · by_cases ey : y = w
                  · subst ey
                    have := (mt_sym hz e).2.1
                    rw [hm'] at this
                    cases this
                    exact absurd rfl ez
                  · exact Or.inl (by omega)
              · intro q
                omega
          · rw [if_neg b]
            exact same (fun y h => by rw [hm, if_neg a, if_neg b] at h; cases h)
    · rw [if_neg (fun z => hf (hfree.mp z).1)]
      exact same (fun y h => by rw [mt_none hf] at h; cases h)
/-! the reference's way -/
def mstep (c : Int32) (w : Nat) (s : Option Nat × Row) : Option Nat × Row := if hit s.2 c w = true then (match s.1 with | none => (some w, s.2) | some u => (none, keepR u w s.2)) else s
def meetS (c : Int32) (Q : Row) : Nat → Option Nat × Row
  | 0 => (none, Q)
  | w + 1 => mstep c w (meetS c Q w)
def mend (c : Int32) (s : Option Nat × Row) : Row := match s.1 with | some u => if s.2 (sp u 0) = 5 ∧ s.2 (sp u 2) = c then keepR u u s.2 else s.2 | none => s.2
def meetR (n : Nat) (c : Int32) (Q : Row) : Row := mend c (meetS c Q n)
def Ec (R : Row) (c x : Nat) : Bool := decide ((R (sp x 1)).toNatClampNeg < c)
def Es (R : Row) (n c w x : Nat) : Bool := Ec R c x || (decide (R (sp x 1) = nI c) && (match mtR R n x with | some y => decide (x < w) && (decide (y < w) && !decide (x = y)) | none => false))
theorem Es_iff {R : Row} {n c w x y : Nat} (h : mtR R n x = some y) : Es R n c w x = true ↔ Ec R c x = true ∨ (R (sp x 1) = nI c ∧ x < w ∧ y < w ∧ x ≠ y) := by unfold Es; rw [h]; simp
theorem meet_app {R : Row} {n T c : Nat} (hf : Wf n T R) (hc : c < 36) : ∀ w, w ≤ n → meetS (nI c) (appR R n (Ec R c)) w = (pend R (nI c) w, appR R n (Es R n c w)) := by
  have h8 := hf.1
  intro w
  induction w with
  | zero =>
    intro _
    show (none, _) = (none, _)
    congr 1
    apply app_ext
    intro x hx hm
    cases e : mtR R n x with
    | none => exact absurd e hm
    | some y => rw [Bool.eq_iff_iff, Es_iff e]; constructor
                · intro z; exact Or.inl z
                · intro z; rcases z with z | z
                  · exact z
                  · omega
  | succ w ih =>
    intro hw
    show mstep (nI c) w (meetS (nI c) (appR R n (Ec R c)) w) = _
    rw [ih (by omega)]
    have hE : R (sp w 1) = nI c → Ec R c w = false := by
      intro e
      unfold Ec
      rw [e, cl_nI (by omega)]
      simp
    have hhit : hit (appR R n (Es R n c w)) (nI c) w = hit R (nI c) w := by
      rw [Bool.eq_iff_iff, hit_iff, hit_iff, app_o (a := w) (b := 1) (by decide) (by decide) (by decide), app_free (fun y h => (mt_sym (by omega) h).1) h8]
      constructor
      · intro z; exact ⟨z.1.1, z.2⟩
      · intro z
        refine ⟨⟨z.1, fun q => ?_⟩, z.2⟩
        cases e : mtR R n w with
        | none => exact q.2.2 e
        | some y =>
          rcases (Es_iff e).mp q.2.1 with a | a
          · rw [hE z.2] at a; cases a
          · omega
    unfold mstep
    dsimp only
    rw [hhit]
    have same : (∀ y, mtR R n w = some y → R (sp w 1) = nI c → y < w → False) → appR R n (Es R n c w) = appR R n (Es R n c (w + 1)) := by
      intro hlt
      apply app_ext
      intro x hx hm
      cases e : mtR R n x with
      | none => exact absurd e hm
      | some y =>
        rw [Bool.eq_iff_iff, Es_iff e, Es_iff e]
        constructor
        · intro z; rcases z with z | z
          · exact Or.inl z
          · exact Or.inr ⟨z.1, by omega, by omega, z.2.2.2⟩
        · intro z; rcases z with z | z
          · exact Or.inl z
          · by_cases ex : x = w
            · subst ex; exact (hlt y e z.1 (by omega)).elim
            · by_cases ey : y = w
              · subst ey
                obtain ⟨a1, a2, a3⟩ := mt_sym hx e
                exact (hlt x a2 (by rw [a3]; exact z.1) (by omega)).elim
              · exact Or.inr ⟨z.1, by omega, by omega, z.2.2.2⟩
    by_cases hh : hit R (nI c) w = true
    · obtain ⟨g1, g2⟩ := hit_iff.mp hh
      rw [if_pos hh]
      show (match pend R (nI c) w with | none => (some w, appR R n (Es R n c w)) | some u => (none, keepR u w (appR R n (Es R n c w)))) = _
      cases hp : pend R (nI c) w with
      | none =>
        have e1 : pend R (nI c) (w + 1) = some w := by unfold pend; rw [if_pos hh, hp]
        rw [e1]
        dsimp only
        congr 1
        refine same (fun y hy _ hlt => ?_)
        have hm := mt_nxt (n := n) g1 (by rw [g2]; exact hp)
        rw [hm] at hy
        have := (nxt_1 (R := R) (show w < n by omega)).1
        by_cases a : nxt R n w < n
        · rw [if_pos a] at hy; cases hy; omega
        · rw [if_neg a] at hy
          by_cases b : bail R w = true
          · rw [if_pos b] at hy; cases hy; omega
          · rw [if_neg b] at hy; cases hy
      | some u =>
        have e1 : pend R (nI c) (w + 1) = none := by unfold pend; rw [if_pos hh, hp]
        rw [e1]
        dsimp only
        congr 1
        have hm : mtR R n w = some u := mt_pend g1 (by rw [g2]; exact hp)
        obtain ⟨a1, a2, a3⟩ := mt_sym (show w < n by omega) hm
        have hu := (pend_1 hp).1
        refine app_keep a1 a2 (fun z hz hz2 => ?_)
        cases e : mtR R n z with
        | none => exact absurd e hz2
        | some y =>
          rw [Es_iff e, Es_iff e]
          constructor
          · intro q; rcases q with q | q
            · exact Or.inl (Or.inl q)
            · by_cases ez : z = w
              · exact Or.inr (Or.inr ez)
              · by_cases ey : y = w
                · subst ey
                  have := (mt_sym hz e).2.1
                  rw [hm] at this
                  cases this
                  exact Or.inr (Or.inl rfl)
                · exact Or.inl (Or.inr ⟨q.1, by omega, by omega, q.2.2.2⟩)
          · intro q; rcases q with q | q | q
            · rcases q with q | q
              · exact Or.inl q
              · exact Or.inr ⟨q.1, by omega, by omega, q.2.2.2⟩
            · subst q
              rw [a2] at e
              cases e
              exact Or.inr ⟨by rw [a3]; exact g2, by omega, by omega, by omega⟩
            · subst q
              rw [hm] at e
              cases e
              exact Or.inr ⟨g2, by omega, by omega, by omega⟩
    · rw [if_neg hh]
      have e1 : pend R (nI c) (w + 1) = pend R (nI c) w := by show (if hit R (nI c) w = true then _ else _) = _; rw [if_neg hh]
      rw [e1]
      congr 1
      refine same (fun y hy hc2 _ => ?_)
      by_cases hfw : R (sp w 5) = -1
      · exact hh (hit_iff.mpr ⟨hfw, hc2⟩)
      · rw [mt_none hfw] at hy; cases hy
theorem meet_all {R : Row} {n T : Nat} (hf : Wf n T R) : ∀ c, c ≤ 36 → itW (fun c => meetR n (nI c)) c R = appR R n (Ec R c) := by
  have h8 := hf.1
  intro c
  induction c with
  | zero =>
    intro _
    funext p
    rcases p_cases p with hp | ⟨a, b, hb, rfl⟩
    · rw [app_low hp]; rfl
    · rw [app_sp hb, if_neg (fun q => by have := q.2; unfold Ec at this; simp at this)]; rfl
  | succ c ih =>
    intro hc
    show meetR n (nI c) (itW (fun c => meetR n (nI c)) c R) = _
    rw [ih (by omega)]
    unfold meetR
    rw [meet_app hf (by omega) n (Nat.le_refl n)]
    have hEc : ∀ x, x < n → (Ec R (c + 1) x = true ↔ Ec R c x = true ∨ R (sp x 1) = nI c) := by
      intro x hx
      obtain ⟨d, hd, e⟩ := (hf.2.2.2 x hx).2.1
      unfold Ec
      rw [e, cl_nI (by omega)]
      simp only [decide_eq_true_eq]
      rw [nI_eq (by omega) (by omega)]
      omega
    unfold mend
    dsimp only
    cases hp : pend R (nI c) n with
    | none =>
      dsimp only
      apply app_ext
      intro x hx hm
      cases e : mtR R n x with
      | none => exact absurd e hm
      | some y =>
        rw [Bool.eq_iff_iff, Es_iff e, hEc x hx]
        constructor
        · intro z; rcases z with z | z
          · exact Or.inl z
          · exact Or.inr z.1
        · intro z; rcases z with z | z
          · exact Or.inl z
          · obtain ⟨a1, a2, a3⟩ := mt_sym hx e
            refine Or.inr ⟨z, hx, a1, fun exy => ?_⟩
            subst exy
            have hfx : R (sp x 5) = -1 := by
              by_cases q : R (sp x 5) = -1
              · exact q
              · rw [mt_none q] at e; cases e
            cases hpx : pend R (R (sp x 1)) x with
            | some u => rw [mt_pend hfx hpx] at e; cases e; have := (pend_1 hpx).1; omega
            | none =>
              rw [mt_nxt hfx hpx] at e
              obtain ⟨n1, n2, n3, n4⟩ := nxt_1 (R := R) hx
              by_cases a : nxt R n x < n
              · rw [if_pos a] at e; have := Option.some.inj e; omega
              · have := pend_2 (R := R) (c := R (sp x 1)) (u := x) (hit_iff.mpr ⟨hfx, rfl⟩) hpx (n - (x + 1)) (fun k k1 k2 => n3 k k1 (by omega))
                rw [show x + 1 + (n - (x + 1)) = n by omega, z, hp] at this
                cases this
    | some u =>
      dsimp only
      obtain ⟨u1, u2, u3, u4⟩ := pend_1 hp
      obtain ⟨g1, g2⟩ := hit_iff.mp u2
      have hnu : ¬ nxt R n u < n := by
        intro a
        obtain ⟨n1, n2, n3, n4⟩ := nxt_1 (R := R) u1
        have q1 := n4 a
        have q2 := u4 _ n1 a
        rw [← g2, q1] at q2
        cases q2
      have hmu : mtR R n u = if bail R u = true then some u else none := by rw [mt_nxt g1 (by rw [g2]; exact u3), if_neg hnu]
      have hcond : (appR R n (Es R n c n) (sp u 0) = 5 ∧ appR R n (Es R n c n) (sp u 2) = nI c) ↔ bail R u = true := by
        rw [app_o (a := u) (b := 0) (by decide) (by decide) (by decide), app_o (a := u) (b := 2) (by decide) (by decide) (by decide)]
        unfold bail
        rw [g2]
        simp only [Bool.and_eq_true, decide_eq_true_eq]
        constructor
        · intro z; exact ⟨z.1, z.2.symm⟩
        · intro z; exact ⟨z.1, z.2.symm⟩
      have hself : ∀ x y, x < n → mtR R n x = some y → R (sp x 1) = nI c → x = y → x = u := by
        intro x y hx e z exy
        subst exy
        have hfx : R (sp x 5) = -1 := by
          by_cases q : R (sp x 5) = -1
          · exact q
          · rw [mt_none q] at e; cases e
        cases hpx : pend R (R (sp x 1)) x with
        | some v => rw [mt_pend hfx hpx] at e; cases e; have := (pend_1 hpx).1; omega
        | none =>
          rw [mt_nxt hfx hpx] at e
          obtain ⟨n1, n2, n3, n4⟩ := nxt_1 (R := R) hx
          by_cases a : nxt R n x < n
          · rw [if_pos a] at e; have := Option.some.inj e; omega
          · have := pend_2 (R := R) (c := R (sp x 1)) (u := x) (hit_iff.mpr ⟨hfx, rfl⟩) hpx (n - (x + 1)) (fun k k1 k2 => n3 k k1 (by omega))
            rw [show x + 1 + (n - (x + 1)) = n by omega, z, hp] at this
            cases this
            rfl
      by_cases hb : bail R u = true
      · rw [if_pos (hcond.mpr hb)]
        have hm' : mtR R n u = some u := by rw [hmu, if_pos hb]
        refine app_keep u1 hm' (fun z hz hz2 => ?_)
        cases e : mtR R n z with
        | none => exact absurd e hz2
        | some y =>
          rw [Es_iff e, hEc z hz]
          constructor
          · intro q; rcases q with q | q
            · exact Or.inl (Or.inl q)
            · by_cases ezy : z = y
              · exact Or.inr (Or.inl (hself z y hz e q ezy))
              · exact Or.inl (Or.inr ⟨q, hz, (mt_sym hz e).1, ezy⟩)
          · intro q; rcases q with q | q | q
            · rcases q with q | q
              · exact Or.inl q
              · exact Or.inr q.1
            · subst q; exact Or.inr g2
            · subst q; exact Or.inr g2
      · rw [if_neg (fun z => hb (hcond.mp z))]
        apply app_ext
        intro x hx hm
        cases e : mtR R n x with
        | none => exact absurd e hm
        | some y =>
          rw [Bool.eq_iff_iff, Es_iff e, hEc x hx]
          constructor
          · intro z; rcases z with z | z
            · exact Or.inl z
            · exact Or.inr z.1
          · intro z; rcases z with z | z
            · exact Or.inl z
            · refine Or.inr ⟨z, hx, (mt_sym hx e).1, fun exy => ?_⟩
              have := hself x y hx e z exy
              subst this
              rw [hmu, if_neg hb] at e
              cases e
theorem col_meet {R : Row} {n T : Nat} (hf : Wf n T R) : itW (colR n) n R = itW (fun c => meetR n (nI c)) 36 R := by
  rw [col_app hf.1 n (Nat.le_refl n), meet_all hf 36 (Nat.le_refl 36)]
  apply app_ext
  intro x hx hm
  cases e : mtR R n x with
  | none => exact absurd e hm
  | some y =>
    obtain ⟨d, hd, e2⟩ := (hf.2.2.2 x hx).2.1
    rw [(Dc_iff e).mpr (Or.inl hx)]
    unfold Ec
    rw [e2, cl_nI (by omega)]
    simp [hd]
