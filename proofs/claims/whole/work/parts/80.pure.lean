/-! ===== PURE: the start, and all the calls ===== -/
theorem v0c {c : Nat} (k : Nat) (h0 : c ≠ 0) (h8 : c ≠ 8) (h16 : c ≠ 16) : V0C.1 c k = 0 := by
  show (if c = 0 then (if k = 2 then (35 : Int32) else 0) else if c = 8 then (if k = 2 then 35 else 0) else if c = 16 then (if k = 2 then 35 else 0) else 0) = 0
  rw [if_neg h0, if_neg h8, if_neg h16]
theorem v0m {c : Nat} (k : Nat) (h : c ≠ 1) : V0M.1 c k = 0 := by
  show (if c = 1 then (if k = 3 then (35 : Int32) else 0) else 0) = 0
  rw [if_neg h]
theorem v0m1 (k : Nat) : V0M.1 1 k = if k = 3 then 35 else 0 := by
  show (if 1 = 1 then (if k = 3 then (35 : Int32) else 0) else 0) = _
  rw [if_pos rfl]
theorem v0row {j : Nat} (hj : j < 3) {p : Nat} (hp : 4 ≤ p) : rowC j V0C p = 0 := by
  unfold rowC
  rw [if_neg (by omega), if_neg (by omega), if_neg (by omega), if_neg (by omega)]
  exact v0c _ (by omega) (by omega) (by omega)
theorem rel_0 : Rel V0C V0M := by
  have m : ∀ c, c ≠ 1 → Z60 (V0M.1 c) := fun c h p _ => v0m p h
  have r : ∀ j, j < 3 → Z60 (rowC j V0C) := fun j hj p hp => v0row hj (by omega)
  refine ⟨⟨0, ?_, ⟨by decide, ?_, ⟨0, by decide, ?_⟩, fun w hw => absurd hw (by omega)⟩, ⟨0, by decide, ?_⟩, fun p hp => ?_⟩, ⟨m 2 (by decide), m 3 (by decide), m 4 (by decide), r 1 (by decide), r 2 (by decide)⟩, ⟨?_, Or.inl (v0m _ (by decide))⟩, ⟨?_, ⟨0, by decide, v0m _ (by decide)⟩, ?_, fun k => ⟨0, by decide, v0m _ (by decide)⟩⟩, ?_, fun k hk => ⟨?_, Or.inl (v0m _ (by decide)), ?_, ⟨0, by decide, v0m _ (by decide)⟩, fun i hi => rfl⟩⟩
  · funext p
    rw [v0m1]
    by_cases hp : 4 ≤ p
    · rw [v0row (by decide) hp, if_neg (by omega)]
    · have : p = 0 ∨ p = 1 ∨ p = 2 ∨ p = 3 := by omega
      rcases this with rfl | rfl | rfl | rfl
      · rfl
      · rfl
      · rfl
      · rfl
  · rw [v0m1]; rfl
  · rw [v0m1]; rfl
  · rw [v0m1]; rfl
  · rw [v0m1, if_neg (by omega)]
  · rw [v0m _ (by decide)]; exact v0c _ (by decide) (by decide) (by decide)
  · rw [v0m _ (by decide)]; exact v0c _ (by decide) (by decide) (by decide)
  · funext k
    rw [v0m _ (by decide)]; exact v0c _ (by decide) (by decide) (by decide)
  · show V0C.1 28 = V0M.1 5
    funext k
    rw [v0m _ (by decide)]; exact v0c _ (by decide) (by decide) (by decide)
  · rw [v0m _ (by decide)]; exact v0c _ (by omega) (by omega) (by omega)
  · rw [v0m _ (by decide)]; exact v0c _ (by omega) (by omega) (by omega)
theorem pure_ops : Ops Rel := ⟨fun _ _ h => op_fog h, fun _ _ h => op_village h, fun _ _ h => op_at h, fun _ _ h => op_walker h, fun _ _ h => op_of h, fun _ _ h => op_set h, fun _ _ h => op_turn h, fun _ _ h => op_as h, fun _ _ h => op_free h, fun _ _ h => op_keep h, fun _ _ h => op_hours h, fun _ _ h => op_now h, fun _ _ h => op_on h, fun _ _ h => op_meet h, fun _ _ h => op_when h, fun _ _ h => op_till h, fun _ _ h => op_glad h, fun _ _ h => op_heading h, fun _ _ h => op_begin h, fun _ _ h => op_kind h, fun _ _ h => op_hour h, fun _ _ h => op_hope h, fun _ _ h => op_more h, fun _ _ h => op_best h, fun _ _ h => op_feed h, fun _ _ h => op_wipe h, fun _ _ h => op_moor h, fun _ _ h => op_sheet h, fun _ _ h => op_write h, fun _ _ h => op_copy h, fun _ _ h => op_lays h, fun _ _ h => op_book h, fun _ _ h => op_read h, fun _ _ h => op_image h, fun _ _ h => op_undo h, fun _ _ h => op_tear h, fun _ _ h => op_count h, fun _ _ h => op_status h⟩
theorem pure_rel : ∃ Rel : VV → VV → Prop, Rel V0C V0M ∧ Ops Rel := ⟨Rel, rel_0, pure_ops⟩
