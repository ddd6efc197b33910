/-! ===== PURE: the soonest choice ===== -/
/-- rows that are the same but for the names -/
def En (R Q : Row) : Prop := ∀ p, (∀ w, p ≠ sp w 6) → R p = Q p
theorem En.at {R Q : Row} (h : En R Q) (w : Nat) {k : Nat} (hk : k < 6) : R (sp w k) = Q (sp w k) := h _ (fun u => by unfold sp; omega)
theorem En.lo {R Q : Row} (h : En R Q) {k : Nat} (hk : k < 4) : R k = Q k := h _ (fun u => by unfold sp; omega)
theorem En.wr {R Q : Row} (h : En R Q) (p : Nat) (v : Int32) : En (upd R p v) (upd Q p v) := by
  intro q hq
  by_cases e : q = p
  · subst e; rw [upd_eq, upd_eq]
  · rw [upd_ne e, upd_ne e]; exact h q hq
theorem En.nm {R Q : Row} (h : En R Q) (w : Nat) (u v : Int32) : En (upd R (sp w 6) u) (upd Q (sp w 6) v) := by
  intro q hq
  rw [upd_ne (hq w), upd_ne (hq w)]; exact h q hq
theorem En.turn {R Q : Row} (h : En R Q) (w : Nat) : En (turnR w R) (turnR w Q) := by
  unfold turnR
  rw [h.at w (by decide)]
  exact h.wr _ _
theorem En.step {R Q : Row} (h : En R Q) (w : Nat) : En (stepR w R) (stepR w Q) := by
  unfold stepR
  rw [h.at w (show 1 < 6 by decide), h.at w (show 3 < 6 by decide)]
  by_cases g : tow (Q (sp w 1)) (Q (sp w 3)) < 0
  · rw [if_pos g, if_pos g]; exact h.turn w
  · rw [if_neg g, if_neg g]; exact h.wr _ _
theorem En.it {R Q : Row} (h : En R Q) {f : Row → Row} (hf : ∀ R Q, En R Q → En (f R) (f Q)) : ∀ k, En (itR f k R) (itR f k Q) := by
  intro k
  induction k with
  | zero => exact h
  | succ k ih => exact hf _ _ ih
theorem En.itw {R Q : Row} (h : En R Q) {f : Nat → Row → Row} (hf : ∀ w R Q, En R Q → En (f w R) (f w Q)) : ∀ k, En (itW f k R) (itW f k Q) := by
  intro k
  induction k with
  | zero => exact h
  | succ k ih => exact hf k _ _ ih
theorem En.go {R Q : Row} (h : En R Q) (w : Nat) : En (goR w R) (goR w Q) := by
  unfold goR
  rw [h.at w (show 0 < 6 by decide), h.lo (show 1 < 4 by decide)]
  exact (h.it (fun _ _ e => e.turn w) _).it (fun _ _ e => e.step w) _
theorem En.bring {R Q : Row} (h : En R Q) (w : Nat) : En (bringR w R) (bringR w Q) := by
  unfold bringR
  rw [h.at w (show 1 < 6 by decide), h.at w (show 5 < 6 by decide)]
  by_cases g : Q (sp w 5) = -1
  · rw [if_pos g, if_pos g]; exact h
  · rw [if_neg g, if_neg g]; exact h.wr _ _
theorem En.all {R Q : Row} (h : En R Q) (w : Nat) : En (allR w R) (allR w Q) := by
  unfold allR
  rw [h.at w (show 5 < 6 by decide)]
  by_cases g : Q (sp w 5) = -1 ∨ ¬ Q (sp w 5) < nI w
  · rw [if_pos g, if_pos g]; exact (h.go w).bring w
  · rw [if_neg g, if_neg g]; exact h
theorem En.lift {R Q : Row} (h : En R Q) (w : Nat) : En (liftR w R) (liftR w Q) := by
  unfold liftR
  rw [h.at w (show 1 < 6 by decide), h.lo (show 3 < 4 by decide)]
  by_cases g : Q (sp w 1) = Q 3
  · rw [if_pos g, if_pos g]; exact h
  · rw [if_neg g, if_neg g]; exact (h.wr _ _).wr _ _
theorem En.keep {R Q : Row} (h : En R Q) (w o : Nat) : En (keepR w o R) (keepR w o Q) := (((h.wr _ _).wr _ _).nm _ _ _).nm _ _ _
theorem En.nx {R Q : Row} (h : En R Q) (n w : Nat) : nxt R n w = nxt Q n w := by
  have key : ∀ c d x, nfF R c d x = nfF Q c d x := by
    intro c d
    induction d with
    | zero => intro x; rfl
    | succ d ih => intro x; unfold nfF; rw [ih]; unfold hit; rw [h.at x (show 5 < 6 by decide), h.at x (show 1 < 6 by decide)]
  unfold nxt
  rw [key, h.at w (show 1 < 6 by decide)]
theorem En.col {R Q : Row} (h : En R Q) (n w : Nat) : En (colR n w R) (colR n w Q) := by
  have eb : bail R w = bail Q w := by
    unfold bail
    rw [h.at w (show 0 < 6 by decide), h.at w (show 1 < 6 by decide), h.at w (show 2 < 6 by decide)]
  unfold colR
  rw [h.at w (show 5 < 6 by decide), h.nx, eb]
  by_cases g : Q (sp w 5) = -1
  · rw [if_pos g, if_pos g]
    by_cases g1 : nxt Q n w < n
    · rw [if_pos g1, if_pos g1]; exact h.keep _ _
    · rw [if_neg g1, if_neg g1]
      by_cases g2 : bail Q w = true
      · rw [if_pos g2, if_pos g2]; exact h.keep _ _
      · rw [if_neg g2, if_neg g2]; exact h
  · rw [if_neg g, if_neg g]; exact h
theorem En.tick {R Q : Row} (h : En R Q) : En (upd R 1 (R 1 + 1)) (upd Q 1 (Q 1 + 1)) := by
  rw [h.lo (show 1 < 4 by decide)]; exact h.wr _ _
theorem En.hour {R Q : Row} (h : En R Q) (n : Nat) : En (hourR n R) (hourR n Q) := by
  have ef : fogB R = fogB Q := by
    unfold fogB
    rw [h.lo (show 1 < 4 by decide), h.lo (show 2 < 4 by decide)]
  unfold hourR
  rw [ef]
  by_cases g : fogB Q = true
  · rw [if_pos g, if_pos g]
    exact ((h.itw (fun w _ _ e => e.all w) n).itw (fun w _ _ e => e.col n w) n).tick
  · rw [if_neg g, if_neg g]
    exact ((h.itw (fun w _ _ e => e.lift w) n).itw (fun w _ _ e => e.all w) n).tick
theorem En.on {R Q : Row} (h : En R Q) (n k : Nat) : En (onR n k R) (onR n k Q) := h.it (fun _ _ e => e.hour n) k
theorem En.first {R Q : Row} (h : En R Q) (n w : Nat) (o : Int32) (d : Nat) : fst (hrP n 0 w o R) d 0 = fst (hrP n 0 w o Q) d 0 := by
  have e : hrP n 0 w o R = hrP n 0 w o Q := by
    funext i
    show soB 0 w o (onR n i R) = soB 0 w o (onR n i Q)
    rw [so0, so0, (h.on n i).at w (show 5 < 6 by decide)]
  rw [e]
/-- the reference's best and soonest -/
def own (b s : Int32) (V : VV) : VV := wI (wI V 0 6 b) 0 7 s
theorem own_6 (b s : Int32) (V : VV) : (own b s V).1 0 6 = b := by unfold own; rw [wI_eq, upd_ne (by decide), wI_eq, upd_eq]
theorem own_7 (b s : Int32) (V : VV) : (own b s V).1 0 7 = s := by unfold own; rw [wI_eq, upd_eq]
theorem wI_far (V : VV) {c d : Nat} (hcd : d ≠ c) (R : Row) (k : Nat) (v : Int32) : wI (sR V c R) d k v = sR (wI V d k v) c R := by
  apply vv_ext
  · intro i j
    by_cases h1 : i = c
    · subst h1; rw [wI_ne (Ne.symm hcd), sR_eq, sR_eq]
    · rw [sR_ne _ _ h1]
      by_cases h2 : i = d
      · subst h2; rw [wI_eq, wI_eq, sR_ne _ _ h1]
      · rw [wI_ne h2, wI_ne h2, sR_ne _ _ h1]
  · rfl
theorem own_sR (b s : Int32) (V : VV) {c : Nat} (hc : 0 ≠ c) (R : Row) : own b s (sR V c R) = sR (own b s V) c R := by
  unfold own
  rw [wI_far V hc, wI_far _ hc]
theorem wI_67 (V : VV) (a b : Int32) : wI (wI V 0 7 a) 0 6 b = wI (wI V 0 6 b) 0 7 a := by
  apply vv_ext
  · intro i j
    by_cases h1 : i = 0
    · subst h1
      rw [wI_eq, wI_eq, wI_eq, wI_eq]
      by_cases h6 : j = 6
      · subst h6; rw [upd_eq, upd_ne (by decide), upd_eq]
      · rw [upd_ne h6]
        by_cases h7 : j = 7
        · subst h7; rw [upd_eq, upd_eq]
        · rw [upd_ne h7, upd_ne h7, upd_ne h6]
    · rw [wI_ne h1, wI_ne h1, wI_ne h1, wI_ne h1]
  · rfl
theorem wI_wI (V : VV) (c k : Nat) (a b : Int32) : wI (wI V c k a) c k b = wI V c k b := by
  apply vv_ext
  · intro i j
    by_cases h1 : i = c
    · subst h1
      rw [wI_eq, wI_eq, wI_eq, upd_upd]
    · rw [wI_ne h1, wI_ne h1, wI_ne h1]
  · rfl
theorem own_own (b s b' s' : Int32) (V : VV) : own b' s' (own b s V) = own b' s' V := by
  unfold own
  rw [wI_67, wI_wI, wI_wI]
theorem own_mr (b s : Int32) (V : VV) (R Q : Row) : mR (sR (own b s V) 4 R) Q = own b s (mR (sR V 4 R) Q) := by
  rw [mR_sR, mR_sR, own_sR b s _ (show 0 ≠ 1 by decide), own_sR b s _ (show 0 ≠ 4 by decide)]
theorem m_tries (V : VV) (b s a c : Int32) : f_X4_tries a c (own b s V) = some (own (if s ≤ c then b else a) (if s ≤ c then s else c) V) := by
  unfold f_X4_tries
  rw [own_7, own_6]
  have w6 : ∀ x, wI (own b s V) 0 6 x = own x s V := fun x => by unfold own; rw [wI_67, wI_wI]
  have w7 : ∀ x y, wI (own x s V) 0 7 y = own x y V := fun x y => by unfold own; rw [wI_wI]
  by_cases h : s ≤ c
  · simp only [if_pos h, w6, own_7, w7, bV]
  · simp only [if_neg h, w6, own_7, w7, bV]
def soonR (t : Nat → Nat) (m : Nat) : Nat → Int32 × Nat
  | 0 => (-1, m + 1)
  | k + 1 => if t k < (soonR t m k).2 then (nI k, t k) else soonR t m k
theorem soon_le (t : Nat → Nat) (m : Nat) : ∀ k, (soonR t m k).2 ≤ m + 1 := by
  intro k
  induction k with
  | zero => exact Nat.le_refl _
  | succ k ih =>
    unfold soonR
    by_cases h : t k < (soonR t m k).2
    · rw [if_pos h]; omega
    · rw [if_neg h]; exact ih
theorem soon_0 (t : Nat → Nat) (m : Nat) {x : Nat} (h : (soonR t m x).2 = 0) : ∀ d, soonR t m (x + d) = soonR t m x := by
  intro d
  induction d with
  | zero => rfl
  | succ d ih =>
    show (if t (x + d) < (soonR t m (x + d)).2 then _ else soonR t m (x + d)) = _
    rw [ih, if_neg (by omega)]
theorem soon_b (t : Nat → Nat) (m : Nat) : ∀ k, (soonR t m k).1 = -1 ∨ ∃ j, j < k ∧ (soonR t m k).1 = nI j := by
  intro k
  induction k with
  | zero => exact Or.inl rfl
  | succ k ih =>
    unfold soonR
    by_cases h : t k < (soonR t m k).2
    · rw [if_pos h]; exact Or.inr ⟨k, by omega, rfl⟩
    · rw [if_neg h]; exact ih.imp id (fun ⟨j, h1, h2⟩ => ⟨j, by omega, h2⟩)
theorem k_again (VC : VV) (R : Row) {Q : Row} (hz : Z60 R) (hq : Z60 Q) : f_X0_takeFrom 1 0 (pR 1 (pR 0 VC R) Q) = some (pR 1 (pR 0 VC R) R) := by
  have e : rowC 0 (pR 1 (pR 0 VC R) Q) = R := by rw [rowC_pR_ne (by decide), rowC_pR]
  rw [k_takeFrom (by decide) _ (by rw [e]; exact hz) (by rw [rowC_pR]; exact hq), e, pR_pR]
theorem k_soon {n : Nat} (W : VV) {c a o' : Int32} {w e N m : Nat} {o : Int32} {f : Nat → Row} (hev : evC e o = (0, o')) (he : e < 4) (ho : e = 0 → o ≠ -2) (hw : w < 8) (hm : m < 140) (hN : N < 150) (hfW : ∀ x, x < N → Wf n 99999 (f x)) (hfZ : ∀ x, x < N → Z60 (f x)) (hsup : ∀ x Q, x < N → Z60 Q → f_X3_suppose c (nI x) (nI w) (pR 1 W Q) = some (pR 1 W (f x))) : ∀ d x fuel Q, x + d = N → d < fuel → Z60 Q → ∃ Q', Z60 Q' ∧ f_X3_soonestChoice_L9 fuel c (nI N) (nI w) o' (soonR (fun y => fst (hrP n e w o (f y)) (m + 1) 0) m x).1 (nI (soonR (fun y => fst (hrP n e w o (f y)) (m + 1) 0) m x).2 - 1) (nI x) (pR 1 W Q) = some ((soonR (fun y => fst (hrP n e w o (f y)) (m + 1) 0) m N).1, pR 1 W Q') := by
  intro d
  induction d with
  | zero =>
    intro x fuel Q h1 h2 hq
    obtain ⟨g, rfl⟩ : ∃ g, fuel = g + 1 := ⟨fuel - 1, by omega⟩
    have : x = N := by omega
    subst this
    rw [f_X3_soonestChoice_L9, if_pos (Int32.le_refl _)]
    exact ⟨Q, hq, rfl⟩
  | succ d ih =>
    intro x fuel Q h1 h2 hq
    obtain ⟨g, rfl⟩ : ∃ g, fuel = g + 1 := ⟨fuel - 1, by omega⟩
    have hx : x < N := by omega
    rw [f_X3_soonestChoice_L9, if_neg (nI_ge hx (by omega))]
    have ih' := ih (x + 1) g
    have hsN := soon_0 (fun y => fst (hrP n e w o (f y)) (m + 1) 0) m (x := x)
    have hle := soon_le (fun y => fst (hrP n e w o (f y)) (m + 1) 0) m x
    have hS : soonR (fun y => fst (hrP n e w o (f y)) (m + 1) 0) m (x + 1) = if fst (hrP n e w o (f x)) (m + 1) 0 < (soonR (fun y => fst (hrP n e w o (f y)) (m + 1) 0) m x).2 then (nI x, fst (hrP n e w o (f x)) (m + 1) 0) else soonR (fun y => fst (hrP n e w o (f y)) (m + 1) 0) m x := rfl
    rw [hS] at ih'
    generalize hSx : soonR (fun y => fst (hrP n e w o (f y)) (m + 1) 0) m x = B at *
    obtain ⟨b, s⟩ := B
    dsimp only at *
    by_cases s0 : s = 0
    · subst s0
      rw [if_pos (show nI 0 - 1 < (0 : Int32) by decide)]
      have := hsN rfl (N - x)
      rw [show x + (N - x) = N by omega] at this
      rw [this]
      exact ⟨Q, hq, rfl⟩
    · obtain ⟨u, rfl⟩ : ∃ u, s = u + 1 := ⟨s - 1, by omega⟩
      rw [nI_pred, if_neg (nI_pos (by omega)), hsup x Q hx hq, Option.bind_some]
      obtain ⟨Q1, q1, k1⟩ := k_first W (hfW x hx) (hfZ x hx) (m := u) hw he o ho (by omega)
      rw [hev] at k1
      dsimp only at k1
      rw [k1, Option.bind_some]
      dsimp only
      have cut := fst_cut (hrP n e w o (f x)) (m + 1) (u + 1) 0 (by omega)
      rw [Nat.zero_add] at cut
      by_cases g1 : fst (hrP n e w o (f x)) (m + 1) 0 < u + 1
      · rw [if_pos g1] at cut
        rw [cut, if_pos (show fst (hrP n e w o (f x)) (m + 1) 0 ≤ u by omega), if_neg (nI_pos (show fst (hrP n e w o (f x)) (m + 1) 0 < 2 ^ 31 by omega)), nI_succ']
        have := ih' Q1 (by omega) (by omega) q1
        rw [if_pos g1] at this
        exact this
      · rw [if_neg g1] at cut
        rw [cut, if_neg (show ¬ u + 1 ≤ u by omega), if_pos (show (-1 : Int32) < 0 by decide), nI_succ']
        have := ih' Q1 (by omega) (by omega) q1
        rw [if_neg g1] at this
        dsimp only at this
        rw [nI_pred] at this
        exact this
theorem m_soon {n : Nat} (VM : VV) {R : Row} (hz : Z60 R) {w e N m : Nat} {o : Int32} {f : Nat → Row} (he : e < 4) (hw : w < 8) (hm : m < 140) (hfW : ∀ x, x < N → Wf n 99999 (f x)) (hfZ : ∀ x, x < N → Z60 (f x)) {F : Nat → Int32 → VV → Option (Int32 × VV)} {res : VV → Option (Int32 × VV)} (hF0 : ∀ fuel V, F (fuel + 1) (nI N) V = res V) (hF1 : ∀ fuel x W, x < N → F (fuel + 1) (nI x) (mR W R) = ((f_X4_firstSo (nI e) (nI w) o (nI m) (mR W (f x))).bind fun q10 => ((f_X4_takesBack q10.1 q10.2).bind fun q11 => ((f_X4_tries (nI x) q11.1 q11.2).bind fun V12 => F fuel (nI (x + 1)) V12)))) : ∀ d x fuel, x + d = N → d < fuel → F fuel (nI x) (mR (sR (own (soonR (fun y => fst (hrP n e w o (f y)) (m + 1) 0) m x).1 (nI (soonR (fun y => fst (hrP n e w o (f y)) (m + 1) 0) m x).2) VM) 4 R) R) = res (mR (sR (own (soonR (fun y => fst (hrP n e w o (f y)) (m + 1) 0) m N).1 (nI (soonR (fun y => fst (hrP n e w o (f y)) (m + 1) 0) m N).2) VM) 4 R) R) := by
  intro d
  induction d with
  | zero =>
    intro x fuel h1 h2
    obtain ⟨g, rfl⟩ : ∃ g, fuel = g + 1 := ⟨fuel - 1, by omega⟩
    have : x = N := by omega
    subst this
    exact hF0 _ _
  | succ d ih =>
    intro x fuel h1 h2
    obtain ⟨g, rfl⟩ : ∃ g, fuel = g + 1 := ⟨fuel - 1, by omega⟩
    have hx : x < N := by omega
    rw [hF1 g x _ hx]
    obtain ⟨Q2, q2, k2⟩ := m_first (sR (own (soonR (fun y => fst (hrP n e w o (f y)) (m + 1) 0) m x).1 (nI (soonR (fun y => fst (hrP n e w o (f y)) (m + 1) 0) m x).2) VM) 4 R) (hfW x hx) (hfZ x hx) (m := m) hw he o (by omega)
    rw [k2, Option.bind_some]
    dsimp only
    rw [m_takesR _ R Q2 _ hz q2, Option.bind_some]
    dsimp only
    rw [own_mr, m_tries, Option.bind_some]
    rw [← ih (x + 1) g (by omega) (by omega)]
    have hle := soon_le (fun y => fst (hrP n e w o (f y)) (m + 1) 0) m x
    have hfl := (fst_le (hrP n e w o (f x)) (m + 1) 0).2
    have hS : soonR (fun y => fst (hrP n e w o (f y)) (m + 1) 0) m (x + 1) = if fst (hrP n e w o (f x)) (m + 1) 0 < (soonR (fun y => fst (hrP n e w o (f y)) (m + 1) 0) m x).2 then (nI x, fst (hrP n e w o (f x)) (m + 1) 0) else soonR (fun y => fst (hrP n e w o (f y)) (m + 1) 0) m x := rfl
    rw [hS, own_mr]
    by_cases g1 : fst (hrP n e w o (f x)) (m + 1) 0 < (soonR (fun y => fst (hrP n e w o (f y)) (m + 1) 0) m x).2
    · rw [if_pos g1, if_neg (nI_ge g1 (by omega)), if_neg (nI_ge g1 (by omega))]
    · rw [if_neg g1, if_pos (nI_le (by omega) (by omega)), if_pos (nI_le (by omega) (by omega))]
