/-! ===== PURE: the class looks at a token ===== -/
theorem min_1000 {x : Nat} (h : x < 2 ^ 31) : (if (1000 : Int32) < nI x then (1000 : Int32) else nI x) = nI (min x 1000) := by
  by_cases h1 : 1000 < x
  · rw [if_pos (show (1000 : Int32) < nI x from nI_lt (a := 1000) h1 h), show min x 1000 = 1000 by omega]
    rfl
  · rw [if_neg (show ¬ (1000 : Int32) < nI x from nI_nlt (a := 1000) (by omega) (by decide)), show min x 1000 = x by omega]
theorem k_weighL {B : Nat → Nat} {V : VV} {a b t : Int32} {i : Nat} (hB : ∀ k, V.1 26 k = nI (B k)) (hi : i ≤ 120) : ∀ d p acc fuel, p + d = i → d < fuel → acc ≤ 1000 → (∀ j, p ≤ j → j < i → 48 ≤ B j ∧ B j ≤ 57) → f_X2_weigh_L10 fuel (nI p) (tC V a b (nI i) (nI acc) t) = some (tC V a b (nI i) (nI (tkNF B d p acc)) t) := by
  intro d
  induction d with
  | zero =>
    intro p acc fuel hp hf ha hd
    obtain ⟨f, rfl⟩ : ∃ f, fuel = f + 1 := ⟨fuel - 1, by omega⟩
    rw [f_X2_weigh_L10, tC_4, if_pos (nI_le (by omega) (by omega))]
    rfl
  | succ d ih =>
    intro p acc fuel hp hf ha hd
    obtain ⟨f, rfl⟩ : ∃ f, fuel = f + 1 := ⟨fuel - 1, by omega⟩
    obtain ⟨d1, d2⟩ := hd p (by omega) (by omega)
    have e1 : nI acc * 10 + nI (B p) - 48 = nI (acc * 10 + B p - 48) := by
      rw [show (10 : Int32) = nI 10 from rfl, pk_mul, nI_add, show (48 : Int32) = nI 48 from rfl, pk_sub (by omega)]
    rw [f_X2_weigh_L10, tC_4, if_neg (nI_ge (show p < i by omega) (by omega)), inb_nI (show p < 120 by omega) (by decide), itt, tC_5, tC_26, cl_nI (show p < 2 ^ 31 by omega), hB, e1, min_1000 (by omega), tC_w5, bV_e, nI_succ']
    exact ih (p + 1) _ f (by omega) (by omega) (by omega) (fun j h1 h2 => hd j (by omega) h2)
theorem k_weigh {B : Nat → Nat} {V : VV} {a e t : Int32} {st i : Nat} (hB : ∀ k, V.1 26 k = nI (B k)) (hs : st ≤ i) (hi : i ≤ 120) (hd : ∀ j, st ≤ j → j < i → 48 ≤ B j ∧ B j ≤ 57) : f_X2_weigh (tC V a (nI st) (nI i) e t) = some (tC V a (nI st) (nI i) (nI (tkNF B (i - st) st 0)) t) := by
  unfold f_X2_weigh
  rw [tC_w5, bV_e, tC_3]
  exact k_weighL hB hi (i - st) st 0 200 (by omega) (by omega) (by omega) hd
def wgR (V : VV) : Option VV := if V.1 25 2 = 2 then ((f_X2_weigh V).bind fun V11 => some V11) else some V
theorem k_runL {B : Nat → Nat} {L : Nat} {V : VV} {c : Nat} {b e t : Int32} (hL : V.1 25 0 = nI L) (hL2 : L ≤ 120) (hB : ∀ k, V.1 26 k = nI (B k)) (hb : ∀ k, B k < 256) (hc : c ≤ 4) : ∀ d i fuel, i + d = L → d < fuel → f_X2_look_L113 fuel (tC V (nI c) b (nI i) e t) = wgR (tC V (nI c) b (nI (tkRF B c d i)) e t) := by
  intro d
  induction d with
  | zero =>
    intro i fuel hi hf
    obtain ⟨f, rfl⟩ : ∃ f, fuel = f + 1 := ⟨fuel - 1, by omega⟩
    rw [f_X2_look_L113, tC_0, hL, tC_4, if_pos (nI_le (by omega) (by omega))]
    rfl
  | succ d ih =>
    intro i fuel hi hf
    obtain ⟨f, rfl⟩ : ∃ f, fuel = f + 1 := ⟨fuel - 1, by omega⟩
    rw [f_X2_look_L113, tC_0, hL, tC_4, if_neg (nI_ge (show i < L by omega) (by omega)), inb_nI (show i < 120 by omega) (by decide), itt, tC_26, cl_nI (show i < 2 ^ 31 by omega), hB, k_typeOf _ (hb i), Option.bind_some]
    dsimp only
    unfold tkRF
    by_cases h : tkC (B i) = c
    · rw [tC_2, if_pos (show nI (tkC (B i)) = nI c by rw [h]), tC_4, tC_w4, bV_e, nI_succ', if_pos h]
      exact ih (i + 1) f (by omega) (by omega)
    · have := tkC_le (B i)
      have h2 : ¬ nI (tkC (B i)) = (tC V (nI c) b (nI i) e t).1 25 2 := by
        rw [tC_2]
        exact fun z => h ((nI_eq (by omega) (by omega)).mp z)
      rw [if_neg h2, if_neg h]
      rfl
def tkV (B : Nat → Nat) (L st : Nat) (e : Int32) : Int32 := if tkT B L st = 2 then nI (tkN B L st) else e
theorem k_fin {B : Nat → Nat} {L : Nat} {V : VV} {a c e t : Int32} (hL : V.1 25 0 = nI L) (hL2 : L ≤ 120) (hB : ∀ k, V.1 26 k = nI (B k)) (hb : ∀ k, B k < 256) {st fuel : Nat} (hst : st ≤ L) (hn : st < L → B st ≠ 32) : f_X2_look_L8 (fuel + 1) (tC V a (nI st) c e t) = some (tC V (nI (tkT B L st)) (nI st) (nI (tkE B L st)) (tkV B L st e) t) := by
  by_cases hl : st < L
  · have hT : tkT B L st = tkC (B st) := by unfold tkT; rw [if_pos hl]
    have h32 : ¬ nI (B st) = (32 : Int32) := fun z => hn hl ((nI_eq (b := 32) (by have := hb st; omega) (by decide)).mp z)
    have hE := tkE_le (B := B) hst
    have hle := tkC_le (B st)
    rw [f_X2_look_L8, tC_0, hL, tC_3, if_neg (nI_ge hl (by omega)), inb_nI (show st < 120 by omega) (by decide), itt, tC_26, cl_nI (show st < 2 ^ 31 by omega), hB, if_neg h32, if_pos (nI_lt hl (by omega)), itt, k_typeOf _ (hb st), Option.bind_some]
    dsimp only
    rw [tC_w2, bV_e, tC_3, tC_w4, bV_e, nI_succ', tC_2]
    by_cases h1 : tkC (B st) = 1
    · have hE1 : tkE B L st = tkRF B (tkC (B st)) (L - (st + 1)) (st + 1) := by
        unfold tkE; rw [if_pos hl, if_pos (Or.inl h1)]
      rw [if_pos (show nI (tkC (B st)) = 1 by rw [h1]; rfl), k_runL hL hL2 hB hb hle.2 (L - (st + 1)) (st + 1) 200 (by omega) (by omega), ← hE1]
      unfold wgR tkV
      rw [tC_2, if_neg (show ¬ nI (tkC (B st)) = 2 by rw [h1]; decide), hT, if_neg (by omega)]
    · have n1 : ¬ nI (tkC (B st)) = 1 := fun z => h1 ((nI_eq (b := 1) (by omega) (by decide)).mp z)
      rw [if_neg n1]
      by_cases h2 : tkC (B st) = 2
      · have hE1 : tkE B L st = tkRF B (tkC (B st)) (L - (st + 1)) (st + 1) := by
          unfold tkE; rw [if_pos hl, if_pos (Or.inr h2)]
        rw [if_pos (show nI (tkC (B st)) = 2 by rw [h2]; rfl), k_runL hL hL2 hB hb hle.2 (L - (st + 1)) (st + 1) 200 (by omega) (by omega), ← hE1]
        unfold wgR tkV
        rw [tC_2, if_pos (show nI (tkC (B st)) = 2 by rw [h2]; rfl), k_weigh hB hE.1 (by omega) (fun j j1 j2 => tkC_2 ((tkE_all (L := L) (Or.inr (hT.trans h2)) j j1 j2).trans (hT.trans h2))), Option.bind_some, if_pos (hT.trans h2), hT]
        rfl
      · have n2 : ¬ nI (tkC (B st)) = 2 := fun z => h2 ((nI_eq (b := 2) (by omega) (by decide)).mp z)
        have hE1 : tkE B L st = st + 1 := by
          unfold tkE; rw [if_pos hl, if_neg (fun z => z.elim h1 h2)]
        rw [if_neg n2, if_neg n2, hE1, hT]
        unfold tkV
        rw [hT, if_neg h2]
  · have hT : tkT B L st = 0 := by unfold tkT; rw [if_neg hl]
    have hE1 : tkE B L st = st := by unfold tkE; rw [if_neg hl]
    rw [f_X2_look_L8, tC_0, hL, tC_3, if_pos (nI_le (show L ≤ st by omega) (by omega)), if_neg (nI_nlt (show L ≤ st by omega) (by omega)), tC_w2, bV_e, tC_3, tC_w4, bV_e, hT, hE1]
    unfold tkV
    rw [hT, if_neg (by decide)]
    rfl
theorem k_lookL {B : Nat → Nat} {L : Nat} {V : VV} {a c e t : Int32} (hL : V.1 25 0 = nI L) (hL2 : L ≤ 120) (hB : ∀ k, V.1 26 k = nI (B k)) (hb : ∀ k, B k < 256) : ∀ d p fuel, p + d = L → d < fuel → f_X2_look_L8 fuel (tC V a (nI p) c e t) = some (tC V (nI (tkT B L (tkSF B d p))) (nI (tkSF B d p)) (nI (tkE B L (tkSF B d p))) (tkV B L (tkSF B d p) e) t) := by
  intro d
  induction d with
  | zero =>
    intro p fuel hp hf
    obtain ⟨f, rfl⟩ : ∃ f, fuel = f + 1 := ⟨fuel - 1, by omega⟩
    exact k_fin hL hL2 hB hb (by omega) (fun h => absurd h (by omega))
  | succ d ih =>
    intro p fuel hp hf
    obtain ⟨f, rfl⟩ : ∃ f, fuel = f + 1 := ⟨fuel - 1, by omega⟩
    unfold tkSF
    by_cases h : B p = 32
    · rw [if_pos h, f_X2_look_L8, tC_0, hL, tC_3, if_neg (nI_ge (show p < L by omega) (by omega)), inb_nI (show p < 120 by omega) (by decide), itt, tC_26, cl_nI (show p < 2 ^ 31 by omega), hB, if_pos (show nI (B p) = 32 by rw [h]; rfl), tC_w3, bV_e, nI_succ']
      exact ih (p + 1) f (by omega) (by omega)
    · rw [if_neg h]
      exact k_fin hL hL2 hB hb (by omega) (fun _ => h)
theorem k_look {B : Nat → Nat} {L : Nat} {V : VV} (hL : V.1 25 0 = nI L) (hL2 : L ≤ 120) (hB : ∀ k, V.1 26 k = nI (B k)) (hb : ∀ k, B k < 256) {p : Nat} (hp : p ≤ L) (h4 : V.1 25 4 = nI p) : f_X2_look V = some (tC V (nI (tkT B L (tkS B L p))) (nI (tkS B L p)) (nI (tkE B L (tkS B L p))) (tkV B L (tkS B L p) (V.1 25 5)) (V.1 25 6)) := by
  have key := k_lookL (a := V.1 25 2) (c := V.1 25 4) (e := V.1 25 5) (t := V.1 25 6) hL hL2 hB hb (L - p) p 200 (by omega) (by omega)
  unfold f_X2_look
  have e : wI V 25 3 (V.1 25 4) = tC V (V.1 25 2) (nI p) (V.1 25 4) (V.1 25 5) (V.1 25 6) := by
    rw [← h4, ← tC_w3 V (V.1 25 2) (V.1 25 3), tC_row]
  rw [e, bV_e]
  exact key
