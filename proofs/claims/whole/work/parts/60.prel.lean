/-! ===== PURE: the relation between the class's state and the reference's ===== -/
def FogOk (R : Row) : Prop := ∃ f : Nat, f < 16777216 ∧ R 2 = nI f
def RA (n : Nat) (VC VM : VV) : Prop := rowC 0 VC = VM.1 1 ∧ Wf n 99999 (VM.1 1) ∧ FogOk (VM.1 1) ∧ Z60 (VM.1 1)
def RZ (VC VM : VV) : Prop := Z60 (VM.1 2) ∧ Z60 (VM.1 3) ∧ Z60 (VM.1 4) ∧ Z60 (rowC 1 VC) ∧ Z60 (rowC 2 VC)
def RK (VC VM : VV) : Prop := VC.1 24 3 = VM.1 0 5 ∧ (VM.1 0 5 = 0 ∨ (rowC 2 VC = VM.1 2 ∧ FogOk (VM.1 2) ∧ ∃ m, Wf m 99999 (VM.1 2)))
def RT (VC VM : VV) : Prop := VC.1 25 0 = VM.1 0 9 ∧ (∃ t : Nat, t ≤ 120 ∧ VM.1 0 9 = nI t) ∧ VC.1 26 = VM.1 6 ∧ ∀ k, ∃ b : Nat, b < 256 ∧ VM.1 6 k = nI b
def RF (VC VM : VV) : Prop := VC.1 28 = VM.1 5
def RS (VC VM : VV) : Prop := ∀ k, k < 4 → VC.1 (29 + 2 * k) 0 = VM.1 7 k ∧ (VM.1 7 k = 0 ∨ VM.1 7 k = 8 ∨ VM.1 7 k = 16 ∨ VM.1 7 k = 64) ∧ VC.1 (29 + 2 * k) 1 = VM.1 8 k ∧ (∃ z : Nat, z ≤ 40 ∧ VM.1 8 k = nI z) ∧ ∀ i, i < 40 → VC.2 (29 + 2 * k + 1) i = VM.2 9 (40 * k + i)
def Rel (VC VM : VV) : Prop := (∃ n, RA n VC VM) ∧ RZ VC VM ∧ RK VC VM ∧ RT VC VM ∧ RF VC VM ∧ RS VC VM
theorem Rel.row {VC VM : VV} (h : Rel VC VM) {n : Nat} {R : Row} (h1 : Wf n 99999 R) (h2 : FogOk R) (h3 : Z60 R) : Rel (pR 0 VC R) (mR VM R) := by
  obtain ⟨⟨n0, a1, a2, a3, a4⟩, ⟨z1, z2, z3, z4, z5⟩, ⟨k1, k2⟩, ⟨t1, t2, t3, t4⟩, f, s⟩ := h
  refine ⟨⟨n, by rw [rowC_pR, mR_1], by rw [mR_1]; exact h1, by rw [mR_1]; exact h2, by rw [mR_1]; exact h3⟩, ⟨?_, ?_, ?_, ?_, ?_⟩, ⟨?_, ?_⟩, ⟨?_, ?_, ?_, ?_⟩, ?_, fun k hk => ?_⟩
  · rw [mR_ne _ _ (by decide)]; exact z1
  · rw [mR_ne _ _ (by decide)]; exact z2
  · rw [mR_ne _ _ (by decide)]; exact z3
  · rw [rowC_pR_ne (by decide)]; exact z4
  · rw [rowC_pR_ne (by decide)]; exact z5
  · rw [pR_far _ _ (by decide) (by decide), mR_ne _ _ (by decide)]; exact k1
  · rw [rowC_pR_ne (by decide), mR_ne _ _ (show 0 ≠ 1 by decide), mR_ne _ _ (show 2 ≠ 1 by decide)]; exact k2
  · rw [pR_far _ _ (by decide) (by decide), mR_ne _ _ (by decide)]; exact t1
  · rw [mR_ne _ _ (by decide)]; exact t2
  · rw [pR_far _ _ (by decide) (by decide), mR_ne _ _ (by decide)]; exact t3
  · rw [mR_ne _ _ (by decide)]; exact t4
  · show (pR 0 VC R).1 28 = (mR VM R).1 5
    rw [pR_far _ _ (by decide) (by decide), mR_ne _ _ (by decide)]; exact f
  · rw [pR_far _ _ (by decide) (by omega), mR_ne _ _ (show 7 ≠ 1 by decide), mR_ne _ _ (show 8 ≠ 1 by decide), pR_2, mR_2]; exact s k hk
theorem Rel.trial {VC VM : VV} (h : Rel VC VM) {Q : Row} (hq : Z60 Q) : Rel (pR 1 VC Q) VM := by
  obtain ⟨⟨n0, a1, a2, a3, a4⟩, ⟨z1, z2, z3, z4, z5⟩, ⟨k1, k2⟩, ⟨t1, t2, t3, t4⟩, f, s⟩ := h
  refine ⟨⟨n0, by rw [rowC_pR_ne (by decide)]; exact a1, a2, a3, a4⟩, ⟨z1, z2, z3, by rw [rowC_pR]; exact hq, by rw [rowC_pR_ne (by decide)]; exact z5⟩, ⟨?_, ?_⟩, ⟨?_, t2, ?_, t4⟩, ?_, fun k hk => ?_⟩
  · rw [pR_far _ _ (by decide) (by decide)]; exact k1
  · rw [rowC_pR_ne (by decide)]; exact k2
  · rw [pR_far _ _ (by decide) (by decide)]; exact t1
  · rw [pR_far _ _ (by decide) (by decide)]; exact t3
  · show (pR 1 VC Q).1 28 = VM.1 5
    rw [pR_far _ _ (by decide) (by decide)]; exact f
  · rw [pR_far _ _ (by decide) (by omega), pR_2]; exact s k hk
theorem Rel.aside {VC VM : VV} (h : Rel VC VM) {c : Nat} (hc : c = 3 ∨ c = 4) {Q : Row} (hq : Z60 Q) : Rel VC (sR VM c Q) := by
  obtain ⟨⟨n0, a1, a2, a3, a4⟩, ⟨z1, z2, z3, z4, z5⟩, ⟨k1, k2⟩, ⟨t1, t2, t3, t4⟩, f, s⟩ := h
  have e : ∀ d, d ≠ 3 → d ≠ 4 → (sR VM c Q).1 d = VM.1 d := fun d h3 h4 => sR_ne _ _ (by omega)
  refine ⟨⟨n0, by rw [e 1 (by decide) (by decide)]; exact a1, by rw [e 1 (by decide) (by decide)]; exact a2, by rw [e 1 (by decide) (by decide)]; exact a3, by rw [e 1 (by decide) (by decide)]; exact a4⟩, ⟨by rw [e 2 (by decide) (by decide)]; exact z1, ?_, ?_, z4, z5⟩, ⟨?_, ?_⟩, ⟨?_, ?_, ?_, ?_⟩, ?_, fun k hk => ?_⟩
  · by_cases q : c = 3
    · subst q; rw [sR_eq]; exact hq
    · rw [sR_ne _ _ (by omega)]; exact z2
  · by_cases q : c = 4
    · subst q; rw [sR_eq]; exact hq
    · rw [sR_ne _ _ (by omega)]; exact z3
  · rw [e 0 (by decide) (by decide)]; exact k1
  · rw [e 0 (by decide) (by decide), e 2 (by decide) (by decide)]; exact k2
  · rw [e 0 (by decide) (by decide)]; exact t1
  · rw [e 0 (by decide) (by decide)]; exact t2
  · rw [e 6 (by decide) (by decide)]; exact t3
  · rw [e 6 (by decide) (by decide)]; exact t4
  · show VC.1 28 = (sR VM c Q).1 5
    rw [e 5 (by decide) (by decide)]; exact f
  · rw [e 7 (by decide) (by decide), e 8 (by decide) (by decide), sR_2]; exact s k hk
/-- the reference's own small numbers -/
theorem Rel.own {VC VM : VV} (h : Rel VC VM) {k : Nat} (hk : k = 6 ∨ k = 7 ∨ k = 10 ∨ k = 11 ∨ k = 12 ∨ k = 13) (v : Int32) : Rel VC (wI VM 0 k v) := by
  obtain ⟨⟨n0, a1, a2, a3, a4⟩, ⟨z1, z2, z3, z4, z5⟩, ⟨k1, k2⟩, ⟨t1, t2, t3, t4⟩, f, s⟩ := h
  have e : ∀ d, d ≠ 0 → (wI VM 0 k v).1 d = VM.1 d := fun d h => wI_ne h
  have e5 : (wI VM 0 k v).1 0 5 = VM.1 0 5 := by rw [wI_eq, upd_ne (by omega)]
  have e9 : (wI VM 0 k v).1 0 9 = VM.1 0 9 := by rw [wI_eq, upd_ne (by omega)]
  refine ⟨⟨n0, by rw [e 1 (by decide)]; exact a1, by rw [e 1 (by decide)]; exact a2, by rw [e 1 (by decide)]; exact a3, by rw [e 1 (by decide)]; exact a4⟩, ⟨by rw [e 2 (by decide)]; exact z1, by rw [e 3 (by decide)]; exact z2, by rw [e 4 (by decide)]; exact z3, z4, z5⟩, ⟨by rw [e5]; exact k1, by rw [e5, e 2 (by decide)]; exact k2⟩, ⟨by rw [e9]; exact t1, by rw [e9]; exact t2, by rw [e 6 (by decide)]; exact t3, by rw [e 6 (by decide)]; exact t4⟩, ?_, fun q hq => ?_⟩
  · show VC.1 28 = (wI VM 0 k v).1 5
    rw [e 5 (by decide)]; exact f
  · rw [e 7 (by decide), e 8 (by decide), wI_2]; exact s q hq
def fdC (i : Nat) (V : VV) : VV := wI V 28 i (V.1 28 i + 1)
def fdM (i : Nat) (V : VV) : VV := wI V 5 i (V.1 5 i + 1)
theorem rowC_far {j c k : Nat} {v : Int32} (V : VV) (hj : j < 3) (hc : 24 ≤ c) : rowC j (wI V c k v) = rowC j V := by
  funext p
  unfold rowC
  rw [wI_ne (show 8 * j ≠ c by omega), wI_ne (show 8 * j + 1 + (p - 4) % 7 ≠ c by omega)]
theorem Rel.find {VC VM : VV} (h : Rel VC VM) (i : Nat) : Rel (fdC i VC) (fdM i VM) := by
  obtain ⟨⟨n0, a1, a2, a3, a4⟩, ⟨z1, z2, z3, z4, z5⟩, ⟨k1, k2⟩, ⟨t1, t2, t3, t4⟩, f, s⟩ := h
  have e : ∀ d, d ≠ 5 → (fdM i VM).1 d = VM.1 d := fun d h => wI_ne h
  have g : ∀ d, d ≠ 28 → (fdC i VC).1 d = VC.1 d := fun d h => wI_ne h
  have r : ∀ j, j < 3 → rowC j (fdC i VC) = rowC j VC := fun j hj => rowC_far VC hj (by decide)
  refine ⟨⟨n0, by rw [e 1 (by decide), r 0 (by decide)]; exact a1, by rw [e 1 (by decide)]; exact a2, by rw [e 1 (by decide)]; exact a3, by rw [e 1 (by decide)]; exact a4⟩, ⟨by rw [e 2 (by decide)]; exact z1, by rw [e 3 (by decide)]; exact z2, by rw [e 4 (by decide)]; exact z3, by rw [r 1 (by decide)]; exact z4, by rw [r 2 (by decide)]; exact z5⟩, ⟨by rw [e 0 (by decide), g 24 (by decide)]; exact k1, by rw [e 0 (by decide), e 2 (by decide), r 2 (by decide)]; exact k2⟩, ⟨by rw [e 0 (by decide), g 25 (by decide)]; exact t1, by rw [e 0 (by decide)]; exact t2, by rw [e 6 (by decide), g 26 (by decide)]; exact t3, by rw [e 6 (by decide)]; exact t4⟩, ?_, fun q hq => ?_⟩
  · show (wI VC 28 i (VC.1 28 i + 1)).1 28 = (wI VM 5 i (VM.1 5 i + 1)).1 5
    rw [wI_eq, wI_eq, show VC.1 28 = VM.1 5 from f]
  · rw [e 7 (by decide), e 8 (by decide), g _ (show 29 + 2 * q ≠ 28 by omega)]; exact s q hq
/-! findings -/
theorem m_find0 (V : VV) : f_X4_finds (-1000000001) V = some (-1000000001, fdM 0 V) := by
  unfold f_X4_finds
  rw [show ((-1000000001 : Int32) - (-1000000001)) = nI 0 by decide, inb_nI (show 0 < 7 by decide) (by decide), itt, itt, cl_nI (by decide)]
  rfl
theorem k_find0 (V : VV) : f_X3_finding (-1000000001) V = some (-1000000001, fdC 0 V) := by
  unfold f_X3_finding
  rw [show ((-1000000001 : Int32) - (-1000000001)) = nI 0 by decide, if_neg (nI_pos (by decide)), if_neg (by decide), inb_nI (show 0 < 7 by decide) (by decide), itt, itt, cl_nI (by decide)]
  rfl
theorem m_find1 (V : VV) : f_X4_finds (-1000000002) V = some (-1000000002, fdM 1 V) := by
  unfold f_X4_finds
  rw [show ((-1000000001 : Int32) - (-1000000002)) = nI 1 by decide, inb_nI (show 1 < 7 by decide) (by decide), itt, itt, cl_nI (by decide)]
  rfl
theorem k_find1 (V : VV) : f_X3_finding (-1000000002) V = some (-1000000002, fdC 1 V) := by
  unfold f_X3_finding
  rw [show ((-1000000001 : Int32) - (-1000000002)) = nI 1 by decide, if_neg (nI_pos (by decide)), if_neg (by decide), inb_nI (show 1 < 7 by decide) (by decide), itt, itt, cl_nI (by decide)]
  rfl
theorem m_find2 (V : VV) : f_X4_finds (-1000000003) V = some (-1000000003, fdM 2 V) := by
  unfold f_X4_finds
  rw [show ((-1000000001 : Int32) - (-1000000003)) = nI 2 by decide, inb_nI (show 2 < 7 by decide) (by decide), itt, itt, cl_nI (by decide)]
  rfl
theorem k_find2 (V : VV) : f_X3_finding (-1000000003) V = some (-1000000003, fdC 2 V) := by
  unfold f_X3_finding
  rw [show ((-1000000001 : Int32) - (-1000000003)) = nI 2 by decide, if_neg (nI_pos (by decide)), if_neg (by decide), inb_nI (show 2 < 7 by decide) (by decide), itt, itt, cl_nI (by decide)]
  rfl
theorem m_find3 (V : VV) : f_X4_finds (-1000000004) V = some (-1000000004, fdM 3 V) := by
  unfold f_X4_finds
  rw [show ((-1000000001 : Int32) - (-1000000004)) = nI 3 by decide, inb_nI (show 3 < 7 by decide) (by decide), itt, itt, cl_nI (by decide)]
  rfl
theorem k_find3 (V : VV) : f_X3_finding (-1000000004) V = some (-1000000004, fdC 3 V) := by
  unfold f_X3_finding
  rw [show ((-1000000001 : Int32) - (-1000000004)) = nI 3 by decide, if_neg (nI_pos (by decide)), if_neg (by decide), inb_nI (show 3 < 7 by decide) (by decide), itt, itt, cl_nI (by decide)]
  rfl
theorem m_find4 (V : VV) : f_X4_finds (-1000000005) V = some (-1000000005, fdM 4 V) := by
  unfold f_X4_finds
  rw [show ((-1000000001 : Int32) - (-1000000005)) = nI 4 by decide, inb_nI (show 4 < 7 by decide) (by decide), itt, itt, cl_nI (by decide)]
  rfl
theorem k_find4 (V : VV) : f_X3_finding (-1000000005) V = some (-1000000005, fdC 4 V) := by
  unfold f_X3_finding
  rw [show ((-1000000001 : Int32) - (-1000000005)) = nI 4 by decide, if_neg (nI_pos (by decide)), if_neg (by decide), inb_nI (show 4 < 7 by decide) (by decide), itt, itt, cl_nI (by decide)]
  rfl
theorem m_find5 (V : VV) : f_X4_finds (-1000000006) V = some (-1000000006, fdM 5 V) := by
  unfold f_X4_finds
  rw [show ((-1000000001 : Int32) - (-1000000006)) = nI 5 by decide, inb_nI (show 5 < 7 by decide) (by decide), itt, itt, cl_nI (by decide)]
  rfl
theorem k_find5 (V : VV) : f_X3_finding (-1000000006) V = some (-1000000006, fdC 5 V) := by
  unfold f_X3_finding
  rw [show ((-1000000001 : Int32) - (-1000000006)) = nI 5 by decide, if_neg (nI_pos (by decide)), if_neg (by decide), inb_nI (show 5 < 7 by decide) (by decide), itt, itt, cl_nI (by decide)]
  rfl
theorem m_find6 (V : VV) : f_X4_finds (-1000000007) V = some (-1000000007, fdM 6 V) := by
  unfold f_X4_finds
  rw [show ((-1000000001 : Int32) - (-1000000007)) = nI 6 by decide, inb_nI (show 6 < 7 by decide) (by decide), itt, itt, cl_nI (by decide)]
  rfl
theorem k_find6 (V : VV) : f_X3_finding (-1000000007) V = some (-1000000007, fdC 6 V) := by
  unfold f_X3_finding
  rw [show ((-1000000001 : Int32) - (-1000000007)) = nI 6 by decide, if_neg (nI_pos (by decide)), if_neg (by decide), inb_nI (show 6 < 7 by decide) (by decide), itt, itt, cl_nI (by decide)]
  rfl
/-! ranges -/
theorem cmp_lt (x y : Int64) : lg_cmp x y < 0 ↔ x < y := lg_cmp_lt x y
theorem cmp_gt (x y : Int64) : 0 < lg_cmp x y ↔ y < x := lg_cmp_gt x y
theorem m_in (a lo hi : Int32) (V : VV) : f_X4_in a.toInt64 lo.toInt64 hi.toInt64 V = some (if ¬ a < lo ∧ ¬ hi < a then 1 else 0, V) := by
  unfold f_X4_in
  by_cases h1 : a < lo
  · rw [if_pos ((cmp_lt _ _).mpr (Int32.toInt64_lt.mpr h1)), if_neg (fun z => z.1 h1)]
  · rw [if_neg (fun z => h1 (Int32.toInt64_lt.mp ((cmp_lt _ _).mp z)))]
    by_cases h2 : hi < a
    · rw [if_pos ((cmp_gt _ _).mpr (Int32.toInt64_lt.mpr h2)), if_neg (fun z => z.2 h2)]
    · rw [if_neg (fun z => h2 (Int32.toInt64_lt.mp ((cmp_gt _ _).mp z))), if_pos ⟨h1, h2⟩]
theorem m_inY (a lo hi : Int32) {lo' hi' : Int64} (e1 : lo' = lo.toInt64) (e2 : hi' = hi.toInt64) (V : VV) (h1 : ¬ a < lo) (h2 : ¬ hi < a) : f_X4_in a.toInt64 lo' hi' V = some (1, V) := by rw [e1, e2, m_in, if_pos ⟨h1, h2⟩]
theorem m_inN (a lo hi : Int32) {lo' hi' : Int64} (e1 : lo' = lo.toInt64) (e2 : hi' = hi.toInt64) (V : VV) (h : a < lo ∨ hi < a) : f_X4_in a.toInt64 lo' hi' V = some (0, V) := by rw [e1, e2, m_in, if_neg (fun z => h.elim z.1 z.2)]
/-- an int is one of 0 .. N-1, or not -/
theorem rng (x : Int32) (N : Nat) (hN : N < 2 ^ 31) : (x < 0 ∨ nI N ≤ x) ∨ ∃ j : Nat, j < N ∧ x = nI j := by
  rcases pk_ix x hN with h | h | h
  · exact Or.inl (Or.inl h)
  · exact Or.inl (Or.inr h)
  · exact Or.inr h
theorem lt_of_le_succ {x : Int32} {N : Nat} (hN : N + 1 < 2 ^ 31) : nI (N + 1) ≤ x → nI N < x := fun h => Int32.lt_of_lt_of_le (nI_lt (Nat.lt_succ_self N) hN) h
theorem m_isCell_y {j : Nat} (hj : j < 36) (V : VV) : f_X4_isCell (nI j) V = some (1, V) := by
  unfold f_X4_isCell
  rw [m_inY (nI j) 0 35 (by decide) (by decide) V (nI_pos (by omega)) (show ¬ nI 35 < nI j from nI_nlt (by omega) (by decide))]
  rfl
theorem m_isCell_n {a : Int32} (h : a < 0 ∨ nI 36 ≤ a) (V : VV) : f_X4_isCell a V = some (0, V) := by
  unfold f_X4_isCell
  rw [m_inN a 0 35 (by decide) (by decide) V (h.imp id (lt_of_le_succ (N := 35) (by decide)))]
  rfl
theorem k_isCell_y {j : Nat} (hj : j < 36) (V : VV) : f_X3_isCell (nI j) V = some (1, V) := by
  unfold f_X3_isCell
  rw [if_neg (nI_pos (by omega)), if_neg (show ¬ (36 : Int32) ≤ nI j from nI_ge hj (by decide))]
theorem k_isCell_n {a : Int32} (h : a < 0 ∨ nI 36 ≤ a) (V : VV) : f_X3_isCell a V = some (0, V) := by
  unfold f_X3_isCell
  by_cases h0 : a < 0
  · rw [if_pos h0]
  · rw [if_neg h0, if_pos (show (36 : Int32) ≤ a from h.resolve_left h0)]
theorem m_isKind_y {j : Nat} (hj : j < 6) (V : VV) : f_X4_isKind (nI j) V = some (1, V) := by
  unfold f_X4_isKind
  rw [m_inY (nI j) 0 5 (by decide) (by decide) V (nI_pos (by omega)) (show ¬ nI 5 < nI j from nI_nlt (by omega) (by decide))]
  rfl
theorem m_isKind_n {a : Int32} (h : a < 0 ∨ nI 6 ≤ a) (V : VV) : f_X4_isKind a V = some (0, V) := by
  unfold f_X4_isKind
  rw [m_inN a 0 5 (by decide) (by decide) V (h.imp id (lt_of_le_succ (N := 5) (by decide)))]
  rfl
theorem k_isKind_y {j : Nat} (hj : j < 6) (V : VV) : f_X3_isKind (nI j) V = some (1, V) := by
  unfold f_X3_isKind
  rw [if_neg (nI_pos (by omega)), if_neg (show ¬ (6 : Int32) ≤ nI j from nI_ge hj (by decide))]
theorem k_isKind_n {a : Int32} (h : a < 0 ∨ nI 6 ≤ a) (V : VV) : f_X3_isKind a V = some (0, V) := by
  unfold f_X3_isKind
  by_cases h0 : a < 0
  · rw [if_pos h0]
  · rw [if_neg h0, if_pos (show (6 : Int32) ≤ a from h.resolve_left h0)]
theorem m_isW_y {n j : Nat} (V : VV) {R : Row} (h8 : n ≤ 8) (hn : R 0 = nI n) (hj : j < n) : f_X4_isWalker (nI j) (mR V R) = some (1, mR V R) := by
  unfold f_X4_isWalker
  rw [inb0, itt, mR_1, tn0, hn, show nI n - 1 = nI (n - 1) from (pk_sub (b := 1) (by omega)), m_inY (nI j) 0 (nI (n - 1)) (by decide) rfl _ (nI_pos (by omega)) (nI_nlt (by omega) (by omega))]
  rfl
theorem m_isW_n {n : Nat} (V : VV) {R : Row} (h8 : n ≤ 8) (hn : R 0 = nI n) {a : Int32} (h : a < 0 ∨ nI n ≤ a) : f_X4_isWalker a (mR V R) = some (0, mR V R) := by
  unfold f_X4_isWalker
  rw [inb0, itt, mR_1, tn0, hn]
  have e : a < 0 ∨ nI n - 1 < a := by
    rcases h with h | h
    · exact Or.inl h
    · by_cases h0 : a < 0
      · exact Or.inl h0
      · refine Or.inr ?_
        cases n with
        | zero => exact Int32.lt_of_lt_of_le (show nI 0 - 1 < 0 by decide) (Int32.not_lt.mp h0)
        | succ n => rw [nI_pred]; exact lt_of_le_succ (by omega) h
  rw [m_inN a 0 (nI n - 1) (by decide) rfl _ e]
  rfl
theorem k_has_n {n : Nat} (j : Nat) (V : VV) {R : Row} (hn : R 0 = nI n) {a : Int32} (h : a < 0 ∨ nI n ≤ a) : f_X0_has j a (pR j V R) = some (0, pR j V R) := by
  rw [k_has, if_neg (fun z => h.elim z.1 (by rw [hn] at z; exact z.2))]
