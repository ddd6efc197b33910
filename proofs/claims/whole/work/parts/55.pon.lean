/-! ===== PURE: the hour, and hours ===== -/
theorem Wf.col {n T : Nat} {R : Row} (h : Wf n T R) {w : Nat} (hw : w < n) : Wf n T (colR n w R) := by
  unfold colR
  split
  · split
    · rename_i h2; exact h.keep hw h2
    · split
      · exact h.keep hw hw
      · exact h
  · exact h
theorem Z60.col {n : Nat} {R : Row} (h8 : n ≤ 8) (h : Z60 R) {w : Nat} (hw : w < n) : Z60 (colR n w R) := by
  unfold colR
  split
  · split
    · rename_i h2; exact h.keep (by omega) (by omega)
    · split
      · exact h.keep (by omega) (by omega)
      · exact h
  · exact h
theorem k_next {n : Nat} (j : Nat) (V : VV) {R : Row} (h8 : n ≤ 8) (hn : R 0 = nI n) {w : Nat} (hw : w < n) : f_X0_nextFreeBeside j (nI w) (pR j V R) = some (if nxt R n w < n then nI (nxt R n w) else -1, pR j V R) := by
  obtain ⟨n1, n2, n3, n4⟩ := nxt_1 (R := R) hw
  have hw8 : w < 8 := by omega
  unfold f_X0_nextFreeBeside
  rw [nI_succ']
  have key := loopF (F := fun fuel i => f_X0_nextFreeBeside_L4 j fuel (nI w) (nI (w + 1 + i)) (pR j V R)) (n := nxt R n w - (w + 1)) (res := some (if nxt R n w < n then nI (nxt R n w) else -1, pR j V R)) ?_ ?_ (nxt R n w - (w + 1)) 0 200 (by omega) (by omega)
  · exact key
  · intro fuel
    show f_X0_nextFreeBeside_L4 j (fuel + 1) _ _ _ = _
    rw [show w + 1 + (nxt R n w - (w + 1)) = nxt R n w by omega, f_X0_nextFreeBeside_L4, pR_n, hn]
    by_cases a : nxt R n w < n
    · obtain ⟨g1, g2⟩ := hit_iff.mp (n4 a)
      have ha8 : nxt R n w < 8 := by omega
      rw [if_neg (nI_ge a (by omega)), inb8 ha8, itt, inb8 hw8, itt, cl8 ha8, cl8 hw8, pR_2', pR_2', if_pos g2, k_isFree j V R ha8, Option.bind_some]
      dsimp only
      rw [if_pos g1, if_neg (by decide), if_pos a]
    · rw [if_pos (nI_le (by omega) (by omega)), if_neg a]
  · intro fuel i hi
    show f_X0_nextFreeBeside_L4 j (fuel + 1) _ _ _ = f_X0_nextFreeBeside_L4 j fuel _ _ _
    have hk8 : w + 1 + i < 8 := by omega
    have hnh := n3 (w + 1 + i) (by omega) (by omega)
    rw [f_X0_nextFreeBeside_L4, pR_n, hn, if_neg (nI_ge (show w + 1 + i < n by omega) (by omega)), inb8 hk8, itt, inb8 hw8, itt, cl8 hk8, cl8 hw8, pR_2', pR_2', nI_succ']
    by_cases g2 : R (sp (w + 1 + i) 1) = R (sp w 1)
    · rw [if_pos g2, k_isFree j V R hk8, Option.bind_some]
      dsimp only
      have g1 : ¬ R (sp (w + 1 + i) 5) = -1 := fun g1 => by rw [hit_iff.mpr ⟨g1, g2⟩] at hnh; cases hnh
      rw [if_neg g1, if_pos rfl]
      rfl
    · rw [if_neg g2]
      rfl
theorem k_collide {n T : Nat} (j : Nat) (V : VV) {R : Row} (hf : Wf n T R) : f_X0_collide j (pR j V R) = some (pR j V (itW (colR n) n R)) := by
  have h8 := hf.1
  have hW : ∀ i, i ≤ n → Wf n T (itW (colR n) i R) := fun i hi => itW_ind (P := Wf n T) (N := n) (fun w R hw h => h.col hw) i R hi hf
  unfold f_X0_collide
  refine loopF (F := fun fuel w => f_X0_collide_L2 j fuel (nI w) (pR j V (itW (colR n) w R))) (n := n) ?_ ?_ n 0 200 (by omega) (by omega)
  · intro fuel
    show f_X0_collide_L2 j (fuel + 1) _ _ = _
    rw [f_X0_collide_L2, pR_n, (hW n (Nat.le_refl n)).2.1, if_pos (Int32.le_refl _)]
  · intro fuel w hw
    have hw8 : w < 8 := by omega
    have hQ := hW w (by omega)
    show f_X0_collide_L2 j (fuel + 1) _ _ = f_X0_collide_L2 j fuel _ (pR j V (colR n w (itW (colR n) w R)))
    generalize itW (colR n) w R = Q at hQ ⊢
    rw [f_X0_collide_L2, pR_n, hQ.2.1, if_neg (nI_ge hw (by omega)), k_isFree j V Q hw8, Option.bind_some]
    dsimp only
    rw [nI_succ', colR]
    by_cases g : Q (sp w 5) = -1
    · rw [if_pos g, if_neg (by decide), if_pos g, k_next j V h8 hQ.2.1 hw, Option.bind_some]
      dsimp only
      by_cases a : nxt Q n w < n
      · rw [if_pos a, if_pos a, k_hasT j V hQ.2.1 a h8, Option.bind_some]
        dsimp only
        rw [if_neg (by decide), k_keep j V Q hw8 (by omega), Option.bind_some]
      · rw [if_neg a, if_neg a, k_hasF, Option.bind_some]
        dsimp only
        rw [if_pos rfl, inb8 hw8, itt, itt, itt, cl8 hw8, pR_1, pR_2', pR_3]
        by_cases b1 : Q (sp w 0) = 5
        · rw [if_pos b1]
          by_cases b2 : Q (sp w 1) = Q (sp w 2)
          · rw [if_pos b2, if_pos (by simp [bail, b1, b2]), k_keep j V Q hw8 hw8, Option.bind_some]
          · rw [if_neg b2, if_neg (by simp [bail, b2])]
        · rw [if_neg b1, if_neg (by simp [bail, b1])]
    · rw [if_neg g, if_pos rfl, if_neg g]
def fI : Option Nat → Int32
  | none => -1
  | some u => nI u
theorem meetS_ok {n T : Nat} {c : Int32} {Q : Row} (hf : Wf n T Q) : ∀ w, w ≤ n → Wf n T (meetS c Q w).2 ∧ ∀ u, (meetS c Q w).1 = some u → u < w := by
  intro w
  induction w with
  | zero => intro _; exact ⟨hf, fun u h => by cases h⟩
  | succ w ih =>
    intro hw
    obtain ⟨h1, h2⟩ := ih (by omega)
    show Wf n T (mstep c w (meetS c Q w)).2 ∧ ∀ u, (mstep c w (meetS c Q w)).1 = some u → u < w + 1
    unfold mstep
    split
    · split
      · exact ⟨h1, fun u h => by cases h; omega⟩
      · rename_i u hu
        have := h2 u hu
        exact ⟨h1.keep (by omega) (by omega), fun u h => by cases h⟩
    · exact ⟨h1, fun u h => by have := h2 u h; omega⟩
theorem m_meetAt {n T : Nat} (V : VV) {Q : Row} (hf : Wf n T Q) (c : Int32) : f_X4_meetAt c (mR V Q) = some (mR V (meetR n c Q)) ∧ Wf n T (meetR n c Q) := by
  have h8 := hf.1
  refine ⟨?_, ?_⟩
  · unfold f_X4_meetAt
    refine loopF (F := fun fuel w => f_X4_meetAt_L4 fuel c (fI (meetS c Q w).1) (nI w) (mR V (meetS c Q w).2)) (n := n) ?_ ?_ n 0 200 (by omega) (by omega)
    · intro fuel
      show f_X4_meetAt_L4 (fuel + 1) _ _ _ _ = _
      obtain ⟨h1, h2⟩ := meetS_ok (c := c) hf n (Nat.le_refl n)
      unfold meetR mend
      generalize meetS c Q n = st at h1 h2 ⊢
      obtain ⟨f, S⟩ := st
      dsimp only at h1 h2 ⊢
      rw [f_X4_meetAt_L4, inb0, itt, mR_1, tn0, h1.2.1, if_pos (Int32.le_refl _)]
      cases f with
      | none => rw [if_pos (show fI none < 0 by decide)]
      | some u =>
        have hu := h2 u rfl
        have hu8 : u < 8 := by omega
        show (if nI u < 0 then _ else _) = _
        rw [if_neg (nI_pos (by omega))]
        show ((f_X4_its (nI u) 0 (mR V S)).bind _) = _
        rw [m_its0 V S hu8, Option.bind_some]
        dsimp only
        by_cases b1 : S (sp u 0) = 5
        · rw [if_pos b1]
          show ((f_X4_its (nI u) 2 (mR V S)).bind _) = _
          rw [m_its2 V S hu8, Option.bind_some]
          dsimp only
          by_cases b2 : S (sp u 2) = c
          · rw [if_pos b2, if_pos ⟨b1, b2⟩]
            show ((f_X4_keeps (nI u) (nI u) (mR V S)).bind _) = _
            rw [m_keeps V S hu8 hu8, Option.bind_some]
          · rw [if_neg b2, if_neg (fun z => b2 z.2)]
        · rw [if_neg b1, if_neg (fun z => b1 z.1)]
    · intro fuel w hw
      have hw8 : w < 8 := by omega
      obtain ⟨h1, h2⟩ := meetS_ok (c := c) hf w (by omega)
      show f_X4_meetAt_L4 (fuel + 1) _ _ _ _ = f_X4_meetAt_L4 fuel c (fI (mstep c w (meetS c Q w)).1) _ (mR V (mstep c w (meetS c Q w)).2)
      generalize meetS c Q w = st at h1 h2 ⊢
      obtain ⟨f, S⟩ := st
      dsimp only at h1 h2 ⊢
      rw [f_X4_meetAt_L4, inb0, itt, mR_1, tn0, h1.2.1, if_neg (nI_ge hw (by omega)), m_isFree V S hw8, Option.bind_some]
      dsimp only
      rw [nI_succ']
      unfold mstep
      dsimp only
      by_cases g1 : S (sp w 5) = -1
      · rw [if_pos g1, if_neg (by decide), m_its1 V S hw8, Option.bind_some]
        dsimp only
        by_cases g2 : S (sp w 1) = c
        · rw [if_pos g2, if_pos (hit_iff.mpr ⟨g1, g2⟩)]
          cases f with
          | none => rw [if_pos (show fI none < 0 by decide)]; rfl
          | some u =>
            have hu := h2 u rfl
            show (if nI u < 0 then _ else _) = _
            rw [if_neg (nI_pos (by omega))]
            show ((f_X4_keeps (nI u) (nI w) (mR V S)).bind _) = _
            rw [m_keeps V S (by omega) hw8, Option.bind_some]
            rfl
        · rw [if_neg g2, if_neg (fun z => g2 (hit_iff.mp z).2)]
      · rw [if_neg g1, if_pos rfl, if_neg (fun z => g1 (hit_iff.mp z).1)]
  · obtain ⟨h1, h2⟩ := meetS_ok (c := c) hf n (Nat.le_refl n)
    unfold meetR mend
    split
    · rename_i u hu
      have := h2 u hu
      split
      · exact h1.keep this this
      · exact h1
    · exact h1
/-- an hour goes -/
def hourR (n : Nat) (R : Row) : Row := if fogB R = true then upd (itW (colR n) n (itW allR n R)) 1 (itW (colR n) n (itW allR n R) 1 + 1) else upd (itW allR n (itW liftR n R)) 1 (itW allR n (itW liftR n R) 1 + 1)
theorem k_passHour {n T : Nat} (j : Nat) (V : VV) {R : Row} (hf : Wf n T R) : f_X0_passHour j (pR j V R) = some (pR j V (hourR n R)) := k_hour j V hf (fun _ h => k_collide j V h)
theorem m_goesHour {n T : Nat} (V : VV) {R : Row} (hf : Wf n T R) : f_X4_goesHour (mR V R) = some (mR V (hourR n R)) := by
  rw [m_hour V hf (mt := fun c => meetR n (nI c)) (fun c R' _ h => m_meetAt V h (nI c))]
  unfold hourR
  rw [col_meet (itW_ind (P := Wf n T) (N := n) (fun w R hw h => h.all hw) n R (Nat.le_refl n) hf)]
theorem Wf.tick {n T : Nat} {R : Row} (h : Wf n T R) : Wf n (T + 1) (upd R 1 (R 1 + 1)) := by
  obtain ⟨t, ht, e⟩ := h.2.2.1
  rw [e, nI_succ']
  exact (h.wide (Nat.le_succ T)).time (by omega)
theorem Wf.hour {n T : Nat} {R : Row} (h : Wf n T R) : Wf n (T + 1) (hourR n R) := by
  unfold hourR
  split
  · exact (itW_ind (P := Wf n T) (N := n) (fun w R hw h => h.col hw) n _ (Nat.le_refl n) (itW_ind (P := Wf n T) (N := n) (fun w R hw h => h.all hw) n R (Nat.le_refl n) h)).tick
  · exact (itW_ind (P := Wf n T) (N := n) (fun w R hw h => h.all hw) n _ (Nat.le_refl n) (itW_ind (P := Wf n T) (N := n) (fun w R _ h => h.lift) n R (Nat.le_refl n) h)).tick
theorem Z60.hour {n T : Nat} {R : Row} (hz : Z60 R) (h : Wf n T R) : Z60 (hourR n R) := by
  have h8 := h.1
  have a1 : ∀ Q, Wf n T Q ∧ Z60 Q → Wf n T (itW allR n Q) ∧ Z60 (itW allR n Q) := fun Q hQ => itW_ind (P := fun Q => Wf n T Q ∧ Z60 Q) (N := n) (fun w R hw h => ⟨h.1.all hw, h.2.all h.1 hw⟩) n Q (Nat.le_refl n) hQ
  unfold hourR
  split
  · obtain ⟨b1, b2⟩ := a1 R ⟨h, hz⟩
    exact (itW_ind (P := Z60) (N := n) (fun w R hw h => h.col h8 hw) n _ (Nat.le_refl n) b2).up (by omega)
  · have b := itW_ind (P := fun Q => Wf n T Q ∧ Z60 Q) (f := liftR) (N := n) (fun w R hw h => ⟨h.1.lift, h.2.lift (by omega)⟩) n R (Nat.le_refl n) ⟨h, hz⟩
    exact (a1 _ b).2.up (by omega)
/-- hours go on -/
def onR (n k : Nat) (R : Row) : Row := itR (hourR n) k R
theorem onR_s (n k : Nat) (R : Row) : hourR n (onR n k R) = onR n (k + 1) R := rfl
theorem on_ok {n T : Nat} {R : Row} (h : Wf n T R) (hz : Z60 R) : ∀ k, Wf n (T + k) (onR n k R) ∧ Z60 (onR n k R) := by
  intro k
  induction k with
  | zero => exact ⟨h, hz⟩
  | succ k ih => exact ⟨ih.1.hour, ih.2.hour ih.1⟩
theorem k_pass {n T : Nat} (j : Nat) (V : VV) {R : Row} (hf : Wf n T R) (hz : Z60 R) {k : Nat} (hk : k < 199) : f_X0_pass j (nI k) (pR j V R) = some (pR j V (onR n k R)) := by
  unfold f_X0_pass
  refine loopF (F := fun fuel i => f_X0_pass_L2 j fuel (nI k) (nI i) (pR j V (onR n i R))) (n := k) ?_ ?_ k 0 200 (by omega) (by omega)
  · intro fuel
    show f_X0_pass_L2 j (fuel + 1) _ _ _ = _
    rw [f_X0_pass_L2, if_pos (Int32.le_refl _)]
  · intro fuel i hi
    show f_X0_pass_L2 j (fuel + 1) _ _ _ = f_X0_pass_L2 j fuel _ _ _
    rw [f_X0_pass_L2, if_neg (nI_ge hi (by omega)), k_passHour j V (on_ok hf hz i).1, Option.bind_some, nI_succ', onR_s]
theorem m_hoursGo {n T : Nat} (V : VV) {R : Row} (hf : Wf n T R) (hz : Z60 R) {k : Nat} (hk : k < 199) : f_X4_hoursGo (nI k) (mR V R) = some (mR V (onR n k R)) := by
  unfold f_X4_hoursGo
  refine loopF (F := fun fuel i => f_X4_hoursGo_L2 fuel (nI k) (nI i) (mR V (onR n i R))) (n := k) ?_ ?_ k 0 200 (by omega) (by omega)
  · intro fuel
    show f_X4_hoursGo_L2 (fuel + 1) _ _ _ = _
    rw [f_X4_hoursGo_L2, if_pos (Int32.le_refl _)]
  · intro fuel i hi
    show f_X4_hoursGo_L2 (fuel + 1) _ _ _ = f_X4_hoursGo_L2 fuel _ _ _
    rw [f_X4_hoursGo_L2, if_neg (nI_ge hi (by omega)), m_goesHour V (on_ok hf hz i).1, Option.bind_some, nI_succ', onR_s]
