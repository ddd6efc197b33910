/-! ===== PURE: items of the text: fog, village ===== -/
theorem bc_or (a b : Nat) : nI a ||| nI b = nI (a ||| b) := by
  apply Int32.toBitVec_inj.mp
  show (nI a).toBitVec ||| (nI b).toBitVec = (nI (a ||| b)).toBitVec
  unfold nI
  simp only [Int32.toBitVec_ofNat']
  rw [BitVec.ofNat_or]
theorem int_nat (m : Int32) : m = nI m.toBitVec.toNat := by
  apply Int32.toBitVec_inj.mp
  unfold nI
  simp only [Int32.toBitVec_ofNat']
  rw [BitVec.ofNat_toNat, BitVec.setWidth_eq]
theorem sh_24 : ∀ h, h < 24 → (1 : Int32) <<< (nI h &&& 31) = nI (2 ^ h) := by decide +kernel
def fogS (b : Int32) (h : Nat) (R : Row) : Row := upd R 2 (if b = 0 then R 2 &&& ((1 <<< (nI h &&& 31)) ^^^ (-1)) else R 2 ||| (1 <<< (nI h &&& 31)))
theorem FogOk.fog {R : Row} (hR : FogOk R) (b : Int32) {h : Nat} (hh : h < 24) : FogOk (fogS b h R) := by
  obtain ⟨f, h1, h2⟩ := hR
  unfold fogS
  by_cases q : b = 0
  · refine ⟨f &&& (((1 : Int32) <<< (nI h &&& 31)) ^^^ (-1)).toBitVec.toNat, Nat.lt_of_le_of_lt (and_le _ _) h1, ?_⟩
    rw [upd_eq, if_pos q, h2, ← bc_and, ← int_nat]
  · refine ⟨f ||| 2 ^ h, ?_, ?_⟩
    · exact Nat.or_lt_two_pow (n := 24) h1 (Nat.pow_lt_pow_right (by decide) hh)
    · rw [upd_eq, if_neg q, h2, sh_24 h hh, bc_or]
theorem GC.wfog {B : Nat → Nat} {L : Nat} {V0 : VV} {st : Nat} {R : Row} {V : VV} (h : GC B L V0 st R V) (v : Int32) : wI V (8 * 1) 1 v = pR 1 V (upd R 2 v) := by
  have := pR_wf 1 V R v
  rw [h.self] at this
  exact this
theorem GC.wvil {B : Nat → Nat} {L : Nat} {V0 : VV} {st : Nat} {R : Row} {V : VV} (h : GC B L V0 st R V) (v : Int32) : wI V (8 * 1) 2 v = pR 1 V (upd R 3 v) := by
  have := pR_wv 1 V R v
  rw [h.self] at this
  exact this
theorem GC.w4 {B : Nat → Nat} {L : Nat} {V0 : VV} {st : Nat} {R : Row} {V : VV} (h : GC B L V0 st R V) (w : Nat) (v : Int32) : wI V (8 * 1 + 4) w v = pR 1 V (upd R (sp w 3) v) := by
  have := pR_w4 1 V R w v
  rw [h.self] at this
  exact this
theorem GC.w5 {B : Nat → Nat} {L : Nat} {V0 : VV} {st : Nat} {R : Row} {V : VV} (h : GC B L V0 st R V) (w : Nat) (v : Int32) : wI V (8 * 1 + 5) w v = pR 1 V (upd R (sp w 4) v) := by
  have := pR_w5 1 V R w v
  rw [h.self] at this
  exact this
theorem GC.rfog {B : Nat → Nat} {L : Nat} {V0 : VV} {st : Nat} {R : Row} {V : VV} (h : GC B L V0 st R V) : V.1 (8 * 1) 1 = R 2 := by
  have := pR_f 1 V R
  rw [h.self] at this
  exact this
theorem GC.rn {B : Nat → Nat} {L : Nat} {V0 : VV} {st : Nat} {R : Row} {V : VV} (h : GC B L V0 st R V) : V.1 (8 * 1) 3 = R 0 := by
  have := pR_n 1 V R
  rw [h.self] at this
  exact this
theorem GM.wr {B : Nat → Nat} {L : Nat} {V0 : VV} {st : Nat} {R : Row} {w : Int32} {V : VV} (h : GM B L V0 st R w V) (p : Nat) (v : Int32) : wI V 1 p v = mR V (upd R p v) := by
  have := mR_w V R p v
  rw [h.self] at this
  exact this
/-- both stand well at st; both have failed there; what a piece of both does -/
def PG (B : Nat → Nat) (L : Nat) (VC0 VM0 : VV) (st n : Nat) (R : Row) (VC VM : VV) : Prop := GC B L VC0 st R VC ∧ GM B L VM0 st R 0 VM ∧ Wf n 99999 R ∧ FogOk R ∧ Z60 R
def PB (B : Nat → Nat) (L : Nat) (VC0 VM0 : VV) (st : Nat) (VC VM : VV) : Prop := ∃ R R', GC B L VC0 st R VC ∧ GM B L VM0 st R' 1 VM ∧ Z60 R ∧ Z60 R'
def Sim (B : Nat → Nat) (L : Nat) (VC0 VM0 : VV) (s0 : Nat) (f : Option (Int32 × VV)) (g : Option VV) : Prop := (∃ st VC VM, f = some (0, VC) ∧ g = some VM ∧ PB B L VC0 VM0 st VC VM) ∨ ∃ st n R VC VM, f = some (1, VC) ∧ g = some VM ∧ PG B L VC0 VM0 st n R VC VM ∧ s0 ≤ st
theorem Sim.le {B : Nat → Nat} {L : Nat} {VC0 VM0 : VV} {s0 s1 : Nat} {f : Option (Int32 × VV)} {g : Option VV} (h : Sim B L VC0 VM0 s0 f g) (hs : s1 ≤ s0) : Sim B L VC0 VM0 s1 f g := by
  rcases h with h | ⟨st, n, R, VC, VM, h1, h2, h3, h4⟩
  · exact Or.inl h
  · exact Or.inr ⟨st, n, R, VC, VM, h1, h2, h3, Nat.le_trans hs h4⟩
theorem wIs_lt {B : Nat → Nat} {L s st : Nat} (h : wIs B L s st) : st < L := by
  have := h.1
  unfold tkT at this
  by_cases q : st < L
  · exact q
  · rw [if_neg q] at this; omega
theorem fog_loop {B : Nat → Nat} {L : Nat} {VC0 VM0 : VV} {st n l : Nat} (hl : l ≤ 23) (b : Int32) : ∀ d h fuel (R : Row) (VC VM : VV), h + d = l + 1 → d < fuel → PG B L VC0 VM0 st n R VC VM → VC.1 25 6 = nI l → ∃ R' VC' VM', f_X2_takeDayHours_L41 1 fuel b (nI h) VC = some (1, VC') ∧ f_X4_fogItem_L53 fuel b (nI l) (nI h) VM = some VM' ∧ PG B L VC0 VM0 st n R' VC' VM' := by
  intro d
  induction d with
  | zero =>
    intro h fuel R VC VM hh hf hP h6
    obtain ⟨f, rfl⟩ : ∃ f, fuel = f + 1 := ⟨fuel - 1, by omega⟩
    have g1 : nI l < nI h := nI_lt (by omega) (by omega)
    rw [f_X2_takeDayHours_L41, f_X4_fogItem_L53, h6, if_pos g1, if_pos g1]
    exact ⟨R, VC, VM, rfl, rfl, hP⟩
  | succ d ih =>
    intro h fuel R VC VM hh hf hP h6
    obtain ⟨f, rfl⟩ : ∃ f, fuel = f + 1 := ⟨fuel - 1, by omega⟩
    obtain ⟨hC, hM, hw, hfog, hz⟩ := hP
    have g1 : ¬ nI l < nI h := nI_nlt (by omega) (by omega)
    have hP' : PG B L VC0 VM0 st n (fogS b h R) (pR 1 VC (fogS b h R)) (mR VM (fogS b h R)) := ⟨hC.row _, hM.row _, hw.fog, hfog.fog b (by omega), hz.up (by decide)⟩
    have h6' : (pR 1 VC (fogS b h R)).1 25 6 = nI l := by rw [pR_1o _ _ (by decide)]; exact h6
    have key := ih (h + 1) f _ _ _ (by omega) (by omega) hP' h6'
    rw [f_X2_takeDayHours_L41, f_X4_fogItem_L53, h6, if_neg g1, if_neg g1, hM.2.2.2, if_pos (show (0 : Int32) = 0 from rfl), inb2, itt, itt, itt, itt, tn2, hM.2.1, hC.rfog, nI_succ']
    by_cases q : b = 0
    · have e : fogS b h R = upd R 2 (R 2 &&& ((1 <<< (nI h &&& 31)) ^^^ (-1))) := by unfold fogS; rw [if_pos q]
      rw [if_pos q, if_pos q, hC.wfog, hM.wr, bV_e, bV_e, ← e]
      exact key
    · have e : fogS b h R = upd R 2 (R 2 ||| (1 <<< (nI h &&& 31))) := by unfold fogS; rw [if_neg q]
      rw [if_neg q, if_neg q, hC.wfog, hM.wr, bV_e, bV_e, ← e]
      exact key
theorem fog_bad {B : Nat → Nat} {L : Nat} {V0 : VV} {st : Nat} {R : Row} {V : VV} (h : GM B L V0 st R 1 V) (b x y : Int32) (f : Nat) : f_X4_fogItem_L53 (f + 1) b x y V = some V := by
  rw [f_X4_fogItem_L53, h.2.2.2, if_neg (show ¬ (1 : Int32) = 0 by decide), ite_self]
theorem fog_sim {B : Nat → Nat} {L : Nat} {VC0 VM0 : VV} {st n : Nat} {R : Row} {VC VM : VV} (h : PG B L VC0 VM0 st n R VC VM) (b : Int32) : Sim B L VC0 VM0 st (f_X2_takeDayHours 1 b VC) ((f_X4_number 0 23 VM).bind fun V2 => ((f_X4_word V2).bind fun q3 => (if (lg_cmp q3.1 655) = 0 then ((f_X4_must 1 q3.2).bind fun V14 => ((f_X4_number (V2.1 0 12) 23 V14).bind fun V15 => (f_X4_fogItem_L53 200 b ((V15.1 0 12)) ((V2.1 0 12)) V15))) else (f_X4_fogItem_L53 200 b ((V2.1 0 12)) ((V2.1 0 12)) q3.2)))) := by
  obtain ⟨hC, hM, hw, hfog, hz⟩ := h
  have hst := hC.1.2.2.1
  have x0 := tkX_le (B := B) hst
  unfold f_X2_takeDayHours
  by_cases ok : nOk B L st 0 23
  · obtain ⟨VC2, x2, hC2, e2⟩ := hC.num_y (a := 0) (b := 23) (lo := 0) (hi := 23) rfl rfl (by decide) ok
    obtain ⟨VM2, y2, hM2, f2⟩ := hM.num_y (a := 0) (b := 23) (lo := 0) (hi := 23) rfl rfl (by decide) (by decide) ok
    obtain ⟨x, hx, hxw⟩ := m_word hM2.1 hM2.2.2.2
    have w12 : lg_cmp x 655 = 0 ↔ wIs B L 12 (tkX B L st) := hxw 12 (by decide)
    rw [x2, Option.bind_some, y2, Option.bind_some, hx, Option.bind_some]
    dsimp only
    rw [if_neg (show ¬ (1 : Int32) = 0 by decide), e2, f2]
    by_cases ht : wIs B L 12 (tkX B L st)
    · obtain ⟨VC3, x3, hC3, e3⟩ := hC2.word_y (s := 12) (by decide) ht
      obtain ⟨VM3, y3, hM3, f3⟩ := hM2.must1
      have x1 := tkX_le (B := B) x0.2
      rw [x3, Option.bind_some, if_pos (w12.mpr ht), y3, Option.bind_some]
      dsimp only
      rw [if_neg (show ¬ (1 : Int32) = 0 by decide)]
      have hN := ok.2.2
      by_cases ok2 : nOk B L (tkX B L (tkX B L st)) (tkN B L st) 23
      · obtain ⟨VC4, x4, hC4, e4⟩ := hC3.num_y (a := nI (tkN B L st)) (b := 23) (lo := tkN B L st) (hi := 23) rfl rfl (by decide) ok2
        obtain ⟨VM4, y4, hM4, f4⟩ := hM3.num_y (a := nI (tkN B L st)) (b := 23) (lo := tkN B L st) (hi := 23) rfl rfl (by omega) (by decide) ok2
        rw [x4, Option.bind_some, y4, Option.bind_some]
        dsimp only
        rw [if_neg (show ¬ (1 : Int32) = 0 by decide), f4]
        have x5 := tkX_le (B := B) x1.2
        obtain ⟨R', VC', VM', z1, z2, z3⟩ := fog_loop (l := tkN B L (tkX B L (tkX B L st))) ok2.2.2 b (tkN B L (tkX B L (tkX B L st)) + 1 - tkN B L st) (tkN B L st) 200 R VC4 VM4 (by have := ok2.2.1; omega) (by have := ok2.2.2; omega) ⟨hC4, hM4, hw, hfog, hz⟩ e4
        exact Or.inr ⟨_, _, _, _, _, z1, z2, z3, by omega⟩
      · obtain ⟨VM4, y4, hM4⟩ := hM3.num_n (a := nI (tkN B L st)) (b := 23) (lo := tkN B L st) (hi := 23) rfl rfl (by omega) (by decide) ok2
        rw [hC3.num_n (a := nI (tkN B L st)) (b := 23) (lo := tkN B L st) (hi := 23) rfl rfl (by omega) (by decide) ok2, Option.bind_some, y4, Option.bind_some]
        dsimp only
        rw [if_pos (show (0 : Int32) = 0 from rfl), fog_bad hM4]
        exact Or.inl ⟨_, _, _, rfl, rfl, R, R, hC3, hM4, hz, hz⟩
    · rw [hC2.word_n (s := 12) (by decide) ht, Option.bind_some, if_neg (mt w12.mp ht)]
      dsimp only
      rw [if_pos (show (0 : Int32) = 0 from rfl)]
      obtain ⟨R', VC', VM', z1, z2, z3⟩ := fog_loop (l := tkN B L st) ok.2.2 b 1 (tkN B L st) 200 R VC2 VM2 (by omega) (by omega) ⟨hC2, hM2, hw, hfog, hz⟩ e2
      exact Or.inr ⟨_, _, _, _, _, z1, z2, z3, x0.1⟩
  · obtain ⟨VM2, y2, hM2⟩ := hM.num_n (a := 0) (b := 23) (lo := 0) (hi := 23) rfl rfl (by decide) (by decide) ok
    rw [hC.num_n (a := 0) (b := 23) (lo := 0) (hi := 23) rfl rfl (by decide) (by decide) ok, Option.bind_some, y2, Option.bind_some, hM2.bad_word, Option.bind_some]
    dsimp only
    rw [if_pos (show (0 : Int32) = 0 from rfl), if_neg (show ¬ lg_cmp 0 655 = 0 by decide), fog_bad hM2]
    exact Or.inl ⟨_, _, _, rfl, rfl, R, R, hC, hM2, hz, hz⟩
theorem vil_sim {B : Nat → Nat} {L : Nat} {VC0 VM0 : VV} {st n : Nat} {R : Row} {VC VM : VV} (h : PG B L VC0 VM0 st n R VC VM) : Sim B L VC0 VM0 st ((f_X2_takeNumber 0 35 VC).bind fun q9 => (if q9.1 = 0 then some (0, q9.2) else (bV (wI q9.2 (8 * 1) 2 (q9.2.1 25 6)) fun V11 => some (1, V11)))) ((f_X4_number 0 35 VM).bind fun V17 => (if (V17.1 0 13) = 0 then (if inb 3 60 = true then (bV (wI V17 1 (Int32.toNatClampNeg (3)) (V17.1 0 12)) fun V20 => some V20) else none) else (if inb 3 60 = true then (if inb 3 60 = true then (bV (wI V17 1 (Int32.toNatClampNeg (3)) (V17.1 1 (Int32.toNatClampNeg (3)))) fun V23 => some V23) else none) else none))) := by
  obtain ⟨hC, hM, hw, hfog, hz⟩ := h
  have hst := hC.1.2.2.1
  have x0 := tkX_le (B := B) hst
  by_cases ok : nOk B L st 0 35
  · obtain ⟨VC2, x2, hC2, e2⟩ := hC.num_y (a := 0) (b := 35) (lo := 0) (hi := 35) rfl rfl (by decide) ok
    obtain ⟨VM2, y2, hM2, f2⟩ := hM.num_y (a := 0) (b := 35) (lo := 0) (hi := 35) rfl rfl (by decide) (by decide) ok
    rw [x2, Option.bind_some, y2, Option.bind_some]
    dsimp only
    rw [if_neg (show ¬ (1 : Int32) = 0 by decide), hM2.2.2.2, if_pos (show (0 : Int32) = 0 from rfl), inb3, itt, tn3, e2, f2, hC2.wvil, hM2.wr, bV_e, bV_e]
    exact Or.inr ⟨_, n, _, _, _, rfl, rfl, ⟨hC2.row _, hM2.row _, hw.vil, hfog.up (by decide), hz.up (by decide)⟩, x0.1⟩
  · obtain ⟨VM2, y2, hM2⟩ := hM.num_n (a := 0) (b := 35) (lo := 0) (hi := 35) rfl rfl (by decide) (by decide) ok
    rw [hC.num_n (a := 0) (b := 35) (lo := 0) (hi := 35) rfl rfl (by decide) (by decide) ok, Option.bind_some, y2, Option.bind_some]
    dsimp only
    rw [if_pos (show (0 : Int32) = 0 from rfl), hM2.2.2.2, if_neg (show ¬ (1 : Int32) = 0 by decide), inb3, itt, itt, tn3, wI_same, bV_e]
    exact Or.inl ⟨_, _, _, rfl, rfl, R, R, hC, hM2, hz, hz⟩
