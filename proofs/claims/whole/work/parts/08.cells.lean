/-! ===== the cells: the reference's (11), the class's (37) ===== -/
theorem wI_ne {V : VV} {c k i : Nat} {v : Int32} (h : i ≠ c) : (wI V c k v).1 i = V.1 i := by simp [wI, h]
theorem wI_eq {V : VV} {c k : Nat} {v : Int32} : (wI V c k v).1 c = upd (V.1 c) k v := by simp [wI]
theorem wI_2 {V : VV} {c k : Nat} {v : Int32} : (wI V c k v).2 = V.2 := rfl
theorem wJ_1 {V : VV} {c k : Nat} {v : Int64} : (wJ V c k v).1 = V.1 := rfl
theorem wJ_ne {V : VV} {c k i : Nat} {v : Int64} (h : i ≠ c) : (wJ V c k v).2 i = V.2 i := by simp [wJ, h]
theorem wJ_eq {V : VV} {c k : Nat} {v : Int64} : (wJ V c k v).2 c = vp_updL (V.2 c) k v := by simp [wJ]
def cMo (G : Gd) (f : Nat → Int32) (g : Nat → Int64) (c : Nat) : va_E := match c with
  | 0 => .inr (4, [.ref (G.2.2 1), .ref (G.2.2 2), .ref (G.2.2 3), .ref (G.2.2 4), .ref (G.2.2 5), .int (f 5), .int (f 6), .int (f 7), .ref (G.2.2 6), .int (f 9), .int (f 10), .int (f 11), .int (f 12), .int (f 13), .ref (G.2.2 7), .ref (G.2.2 8), .ref (G.2.2 9), .ref (G.2.2 10)])
  | 1 => .inl (G.2.1.1, 60, .inl f)
  | 2 => .inl (G.2.1.1, 60, .inl f)
  | 3 => .inl (G.2.1.1, 60, .inl f)
  | 4 => .inl (G.2.1.1, 60, .inl f)
  | 5 => .inl (G.2.1.1, 7, .inl f)
  | 6 => .inl (G.2.1.1, 120, .inl f)
  | 7 => .inl (G.2.1.1, 4, .inl f)
  | 8 => .inl (G.2.1.1, 4, .inl f)
  | 9 => .inl (G.2.1.2.1, 160, .inr (.inl g))
  | _ => .inl (G.2.1.2.1, 40, .inr (.inl g))
def cM (G : Gd) (V : VV) (c : Nat) : va_E := cMo G (V.1 c) (V.2 c) c
def cCo (G : Gd) (f : Nat → Int32) (g : Nat → Int64) (c : Nat) : va_E :=
  if c < 24 then (if c % 8 = 0 then .inr (0, [.int (f 0), .int (f 1), .int (f 2), .int (f 3), .ref (G.2.2 (c + 1)), .ref (G.2.2 (c + 2)), .ref (G.2.2 (c + 3)), .ref (G.2.2 (c + 4)), .ref (G.2.2 (c + 5)), .ref (G.2.2 (c + 6)), .ref (G.2.2 (c + 7))]) else .inl (G.2.1.1, 8, .inl f))
  else if c < 29 then (match c with
    | 24 => .inr (3, [.ref (G.2.2 (8 * 0)), .ref (G.2.2 (8 * 1)), .ref (G.2.2 (8 * 2)), .int (f 3), .ref (G.2.2 25), .ref (G.2.2 27), .ref (G.2.2 28)])
    | 25 => .inr (2, [.int (f 0), .ref (G.2.2 26), .int (f 2), .int (f 3), .int (f 4), .int (f 5), .int (f 6)])
    | 26 => .inl (G.2.1.1, 120, .inl f)
    | 27 => .inl (G.2.1.2.2, 4, .inr (.inr (.inr (.inr (fun k => some (G.2.2 (29 + 2 * k)))))))
    | _ => .inl (G.2.1.1, 7, .inl f))
  else if c % 2 = 1 then .inr (1, [.int (f 0), .int (f 1), .ref (G.2.2 (c + 1))])
  else .inl (G.2.1.2.1, 40, .inr (.inl g))
def cC (G : Gd) (V : VV) (c : Nat) : va_E := cCo G (V.1 c) (V.2 c) c
theorem cM_ne {G : Gd} {V V1 : VV} {c k : Nat} {v : Int32} (e : V1 = wI V c k v) : ∀ i, i ≠ c → cM G V1 i = cM G V i := by
  intro i h
  unfold cM
  rw [e, wI_ne h, wI_2]
theorem cC_ne {G : Gd} {V V1 : VV} {c k : Nat} {v : Int32} (e : V1 = wI V c k v) : ∀ i, i ≠ c → cC G V1 i = cC G V i := by
  intro i h
  unfold cC
  rw [e, wI_ne h, wI_2]
theorem cM_neJ {G : Gd} {V V1 : VV} {c k : Nat} {v : Int64} (e : V1 = wJ V c k v) : ∀ i, i ≠ c → cM G V1 i = cM G V i := by
  intro i h
  unfold cM
  rw [e, wJ_ne h, wJ_1]
theorem cC_neJ {G : Gd} {V V1 : VV} {c k : Nat} {v : Int64} (e : V1 = wJ V c k v) : ∀ i, i ≠ c → cC G V1 i = cC G V i := by
  intro i h
  unfold cC
  rw [e, wJ_ne h, wJ_1]
theorem lt_moor {j : Nat} (h : j < 3) : 8 * j < 37 := by omega
theorem lt_marr {j : Nat} (h : j < 3) (k : Nat) (hk : k < 8) : 8 * j + k < 37 := by omega
theorem lt_sh {k : Nat} (h : k < 4) : 29 + 2 * k < 37 := by omega
theorem lt_sn {k : Nat} (h : k < 4) : 29 + 2 * k + 1 < 37 := by omega
theorem cC_moor {G : Gd} {V : VV} {j : Nat} (h : j < 3) : cC G V (8 * j) = .inr (0, [.int (V.1 (8 * j) 0), .int (V.1 (8 * j) 1), .int (V.1 (8 * j) 2), .int (V.1 (8 * j) 3), .ref (G.2.2 (8 * j + 1)), .ref (G.2.2 (8 * j + 2)), .ref (G.2.2 (8 * j + 3)), .ref (G.2.2 (8 * j + 4)), .ref (G.2.2 (8 * j + 5)), .ref (G.2.2 (8 * j + 6)), .ref (G.2.2 (8 * j + 7))]) := by
  unfold cC cCo
  rw [if_pos (by omega), if_pos (by omega)]
theorem cC_marr {G : Gd} {V : VV} {j : Nat} (h : j < 3) (k : Nat) (h0 : 0 < k) (hk : k < 8) : cC G V (8 * j + k) = .inl (G.2.1.1, 8, .inl (V.1 (8 * j + k))) := by
  unfold cC cCo
  rw [if_pos (by omega), if_neg (by omega)]
theorem cC_sh {G : Gd} {V : VV} {k : Nat} (h : k < 4) : cC G V (29 + 2 * k) = .inr (1, [.int (V.1 (29 + 2 * k) 0), .int (V.1 (29 + 2 * k) 1), .ref (G.2.2 (29 + 2 * k + 1))]) := by
  unfold cC cCo
  rw [if_neg (by omega), if_neg (by omega), if_pos (by omega)]
theorem cC_sn {G : Gd} {V : VV} {k : Nat} (h : k < 4) : cC G V (29 + 2 * k + 1) = .inl (G.2.1.2.1, 40, .inr (.inl (V.2 (29 + 2 * k + 1)))) := by
  unfold cC cCo
  rw [if_neg (by omega), if_neg (by omega), if_neg (by omega)]
theorem cC_moor_w {G : Gd} {V V1 : VV} {j k : Nat} {v : Int32} (h : j < 3) (hk : k < 4) (e : V1 = wI V (8 * j) k v) : cC G V1 (8 * j) = .inr (0, ([.int (V.1 (8 * j) 0), .int (V.1 (8 * j) 1), .int (V.1 (8 * j) 2), .int (V.1 (8 * j) 3), .ref (G.2.2 (8 * j + 1)), .ref (G.2.2 (8 * j + 2)), .ref (G.2.2 (8 * j + 3)), .ref (G.2.2 (8 * j + 4)), .ref (G.2.2 (8 * j + 5)), .ref (G.2.2 (8 * j + 6)), .ref (G.2.2 (8 * j + 7))] : List Value).set k (.int v)) := by
  rw [cC_moor h, e, wI_eq]
  rcases (show k = 0 ∨ k = 1 ∨ k = 2 ∨ k = 3 by omega) with rfl | rfl | rfl | rfl <;> rfl
theorem cC_marr_w {G : Gd} {V V1 : VV} {j : Nat} {i : Nat} {v : Int32} (h : j < 3) (k : Nat) (h0 : 0 < k) (hk : k < 8) (e : V1 = wI V (8 * j + k) i v) : cC G V1 (8 * j + k) = .inl (G.2.1.1, 8, .inl (upd (V.1 (8 * j + k)) i v)) := by
  rw [cC_marr h k h0 hk, e, wI_eq]
theorem cC_sh_w {G : Gd} {V V1 : VV} {k i : Nat} {v : Int32} (h : k < 4) (hi : i < 2) (e : V1 = wI V (29 + 2 * k) i v) : cC G V1 (29 + 2 * k) = .inr (1, ([.int (V.1 (29 + 2 * k) 0), .int (V.1 (29 + 2 * k) 1), .ref (G.2.2 (29 + 2 * k + 1))] : List Value).set i (.int v)) := by
  rw [cC_sh h, e, wI_eq]
  rcases (show i = 0 ∨ i = 1 by omega) with rfl | rfl <;> rfl
theorem cC_sn_w {G : Gd} {V V1 : VV} {k i : Nat} {v : Int64} (h : k < 4) (e : V1 = wJ V (29 + 2 * k + 1) i v) : cC G V1 (29 + 2 * k + 1) = .inl (G.2.1.2.1, 40, .inr (.inl (vp_updL (V.2 (29 + 2 * k + 1)) i v))) := by
  rw [cC_sn h, e, wJ_eq]
theorem cC24 {G : Gd} {V : VV} : cC G V 24 = .inr (3, [.ref (G.2.2 (8 * 0)), .ref (G.2.2 (8 * 1)), .ref (G.2.2 (8 * 2)), .int (V.1 24 3), .ref (G.2.2 25), .ref (G.2.2 27), .ref (G.2.2 28)]) := rfl
theorem cC25 {G : Gd} {V : VV} : cC G V 25 = .inr (2, [.int (V.1 25 0), .ref (G.2.2 26), .int (V.1 25 2), .int (V.1 25 3), .int (V.1 25 4), .int (V.1 25 5), .int (V.1 25 6)]) := rfl
theorem cC24_w {G : Gd} {V V1 : VV} {v : Int32} (e : V1 = wI V 24 3 v) : cC G V1 24 = .inr (3, ([.ref (G.2.2 (8 * 0)), .ref (G.2.2 (8 * 1)), .ref (G.2.2 (8 * 2)), .int (V.1 24 3), .ref (G.2.2 25), .ref (G.2.2 27), .ref (G.2.2 28)] : List Value).set 3 (.int v)) := by rw [cC24, e, wI_eq]; rfl
theorem cC25_w {G : Gd} {V V1 : VV} {k : Nat} {v : Int32} (hk : k = 0 ∨ k = 2 ∨ k = 3 ∨ k = 4 ∨ k = 5 ∨ k = 6) (e : V1 = wI V 25 k v) : cC G V1 25 = .inr (2, ([.int (V.1 25 0), .ref (G.2.2 26), .int (V.1 25 2), .int (V.1 25 3), .int (V.1 25 4), .int (V.1 25 5), .int (V.1 25 6)] : List Value).set k (.int v)) := by
  rw [cC25, e, wI_eq]
  rcases hk with rfl | rfl | rfl | rfl | rfl | rfl <;> rfl
theorem cC26 {G : Gd} {V : VV} : cC G V 26 = .inl (G.2.1.1, 120, .inl (V.1 26)) := rfl
theorem cC27 {G : Gd} {V : VV} : cC G V 27 = .inl (G.2.1.2.2, 4, .inr (.inr (.inr (.inr (fun k => some (G.2.2 (29 + 2 * k))))))) := rfl
theorem cC28 {G : Gd} {V : VV} : cC G V 28 = .inl (G.2.1.1, 7, .inl (V.1 28)) := rfl
theorem cM0 {G : Gd} {V : VV} : cM G V 0 = .inr (4, [.ref (G.2.2 1), .ref (G.2.2 2), .ref (G.2.2 3), .ref (G.2.2 4), .ref (G.2.2 5), .int (V.1 0 5), .int (V.1 0 6), .int (V.1 0 7), .ref (G.2.2 6), .int (V.1 0 9), .int (V.1 0 10), .int (V.1 0 11), .int (V.1 0 12), .int (V.1 0 13), .ref (G.2.2 7), .ref (G.2.2 8), .ref (G.2.2 9), .ref (G.2.2 10)]) := rfl
theorem cM0_w {G : Gd} {V V1 : VV} {k : Nat} {v : Int32} (hk : k = 5 ∨ k = 6 ∨ k = 7 ∨ k = 9 ∨ k = 10 ∨ k = 11 ∨ k = 12 ∨ k = 13) (e : V1 = wI V 0 k v) : cM G V1 0 = .inr (4, ([.ref (G.2.2 1), .ref (G.2.2 2), .ref (G.2.2 3), .ref (G.2.2 4), .ref (G.2.2 5), .int (V.1 0 5), .int (V.1 0 6), .int (V.1 0 7), .ref (G.2.2 6), .int (V.1 0 9), .int (V.1 0 10), .int (V.1 0 11), .int (V.1 0 12), .int (V.1 0 13), .ref (G.2.2 7), .ref (G.2.2 8), .ref (G.2.2 9), .ref (G.2.2 10)] : List Value).set k (.int v)) := by
  rw [cM0, e, wI_eq]
  rcases hk with rfl | rfl | rfl | rfl | rfl | rfl | rfl | rfl <;> rfl
