/-! ===== the start of the law ===== -/
def V0C : VV := (fun c k => if c = 0 then (if k = 2 then 35 else 0) else if c = 8 then (if k = 2 then 35 else 0) else if c = 16 then (if k = 2 then 35 else 0) else 0, fun _ _ => 0)
def V0M : VV := (fun c k => if c = 1 then (if k = 3 then 35 else 0) else 0, fun _ _ => 0)
def adC (h0 : Nat) (u : Nat → Nat) : Nat → Nat := fun c => if c < 24 then u (c + 1) else if c = 24 then h0 else u c
def adM (h0 : Nat) (u : Nat → Nat) : Nat → Nat := fun c => if c = 0 then h0 else u c
theorem arrq_congr {cA : ClassId} {N : Nat} {f g : Nat → Option Nat} (h : ∀ j, j < N → f j = g j) : vp_cell cA (N, .inr (.inr (.inr (.inr f)))) = vp_cell cA (N, .inr (.inr (.inr (.inr g)))) := by
  rw [vp_cell_q, vp_cell_q]
  unfold arrV
  congr 1
  apply Array.ext
  · simp
  · intro i h1 h2
    simp at h1
    simp [h i h1]

abbrev wsFC (G : Gd) (h0 : Nat) (u : Nat → Nat) : va_W := ((h0, .inr (3, [.ref (u 1), .ref (u 9), .ref (u 17), .int 0, .ref (u 25), .ref (u 27), .ref (u 28)])) :: ((u 1), .inr (0, [.int 0, .int 0, .int 35, .int 0, .ref (u 2), .ref (u 3), .ref (u 4), .ref (u 5), .ref (u 6), .ref (u 7), .ref (u 8)])) :: ((u 2), .inl (G.2.1.1, 8, .inl (fun _ => 0))) :: ((u 3), .inl (G.2.1.1, 8, .inl (fun _ => 0))) :: ((u 4), .inl (G.2.1.1, 8, .inl (fun _ => 0))) :: ((u 5), .inl (G.2.1.1, 8, .inl (fun _ => 0))) :: ((u 6), .inl (G.2.1.1, 8, .inl (fun _ => 0))) :: ((u 7), .inl (G.2.1.1, 8, .inl (fun _ => 0))) :: ((u 8), .inl (G.2.1.1, 8, .inl (fun _ => 0))) :: ((u 9), .inr (0, [.int 0, .int 0, .int 35, .int 0, .ref (u 10), .ref (u 11), .ref (u 12), .ref (u 13), .ref (u 14), .ref (u 15), .ref (u 16)])) :: ((u 10), .inl (G.2.1.1, 8, .inl (fun _ => 0))) :: ((u 11), .inl (G.2.1.1, 8, .inl (fun _ => 0))) :: ((u 12), .inl (G.2.1.1, 8, .inl (fun _ => 0))) :: ((u 13), .inl (G.2.1.1, 8, .inl (fun _ => 0))) :: ((u 14), .inl (G.2.1.1, 8, .inl (fun _ => 0))) :: ((u 15), .inl (G.2.1.1, 8, .inl (fun _ => 0))) :: ((u 16), .inl (G.2.1.1, 8, .inl (fun _ => 0))) :: ((u 17), .inr (0, [.int 0, .int 0, .int 35, .int 0, .ref (u 18), .ref (u 19), .ref (u 20), .ref (u 21), .ref (u 22), .ref (u 23), .ref (u 24)])) :: ((u 18), .inl (G.2.1.1, 8, .inl (fun _ => 0))) :: ((u 19), .inl (G.2.1.1, 8, .inl (fun _ => 0))) :: ((u 20), .inl (G.2.1.1, 8, .inl (fun _ => 0))) :: ((u 21), .inl (G.2.1.1, 8, .inl (fun _ => 0))) :: ((u 22), .inl (G.2.1.1, 8, .inl (fun _ => 0))) :: ((u 23), .inl (G.2.1.1, 8, .inl (fun _ => 0))) :: ((u 24), .inl (G.2.1.1, 8, .inl (fun _ => 0))) :: ((u 25), .inr (2, [.int 0, .ref (u 26), .int 0, .int 0, .int 0, .int 0, .int 0])) :: ((u 26), .inl (G.2.1.1, 120, .inl (fun _ => 0))) :: ((u 27), .inl (G.2.1.2.2, 4, .inr (.inr (.inr (.inr (va_up (va_up (va_up (va_up (fun _ => none) 0 (some (u 29))) 1 (some (u 31))) 2 (some (u 33))) 3 (some (u 35)))))))) :: ((u 28), .inl (G.2.1.1, 7, .inl (fun _ => 0))) :: ((u 29), .inr (1, [.int 0, .int 0, .ref (u 30)])) :: ((u 30), .inl (G.2.1.2.1, 40, .inr (.inl (fun _ => 0)))) :: ((u 31), .inr (1, [.int 0, .int 0, .ref (u 32)])) :: ((u 32), .inl (G.2.1.2.1, 40, .inr (.inl (fun _ => 0)))) :: ((u 33), .inr (1, [.int 0, .int 0, .ref (u 34)])) :: ((u 34), .inl (G.2.1.2.1, 40, .inr (.inl (fun _ => 0)))) :: ((u 35), .inr (1, [.int 0, .int 0, .ref (u 36)])) :: ((u 36), .inl (G.2.1.2.1, 40, .inr (.inl (fun _ => 0)))) :: [])
abbrev wsFM (G : Gd) (h0 : Nat) (u : Nat → Nat) : va_W := ((h0, .inr (4, [.ref (u 1), .ref (u 2), .ref (u 3), .ref (u 4), .ref (u 5), .int 0, .int 0, .int 0, .ref (u 6), .int 0, .int 0, .int 0, .int 0, .int 0, .ref (u 7), .ref (u 8), .ref (u 9), .ref (u 10)])) :: ((u 1), .inl (G.2.1.1, 60, .inl (upd (fun _ => 0) 3 35))) :: ((u 2), .inl (G.2.1.1, 60, .inl (fun _ => 0))) :: ((u 3), .inl (G.2.1.1, 60, .inl (fun _ => 0))) :: ((u 4), .inl (G.2.1.1, 60, .inl (fun _ => 0))) :: ((u 5), .inl (G.2.1.1, 7, .inl (fun _ => 0))) :: ((u 6), .inl (G.2.1.1, 120, .inl (fun _ => 0))) :: ((u 7), .inl (G.2.1.1, 4, .inl (fun _ => 0))) :: ((u 8), .inl (G.2.1.1, 4, .inl (fun _ => 0))) :: ((u 9), .inl (G.2.1.2.1, 160, .inr (.inl (fun _ => 0)))) :: ((u 10), .inl (G.2.1.2.1, 40, .inr (.inl (fun _ => 0)))) :: [])
set_option maxRecDepth 100000 in
set_option maxHeartbeats 8000000 in
theorem toC {D : va_G} {cy : ClassId × ClassId × ClassId} {a0 : Nat → Nat} {h0 : Nat} {u : Nat → Nat} {H : Heap} (hP : va_P D vwCl (wsFC (D, cy, a0) h0 u) H) : va_P D vwCl (gW 37 (adC h0 u) (cC (D, cy, adC h0 u) V0C)) H := by
  intro k q hq
  obtain ⟨hk, rfl⟩ := gW_some hq
  match k, hk with
  | 0, _ => exact hP 1 _ rfl
  | 1, _ => exact hP 2 _ rfl
  | 2, _ => exact hP 3 _ rfl
  | 3, _ => exact hP 4 _ rfl
  | 4, _ => exact hP 5 _ rfl
  | 5, _ => exact hP 6 _ rfl
  | 6, _ => exact hP 7 _ rfl
  | 7, _ => exact hP 8 _ rfl
  | 8, _ => exact hP 9 _ rfl
  | 9, _ => exact hP 10 _ rfl
  | 10, _ => exact hP 11 _ rfl
  | 11, _ => exact hP 12 _ rfl
  | 12, _ => exact hP 13 _ rfl
  | 13, _ => exact hP 14 _ rfl
  | 14, _ => exact hP 15 _ rfl
  | 15, _ => exact hP 16 _ rfl
  | 16, _ => exact hP 17 _ rfl
  | 17, _ => exact hP 18 _ rfl
  | 18, _ => exact hP 19 _ rfl
  | 19, _ => exact hP 20 _ rfl
  | 20, _ => exact hP 21 _ rfl
  | 21, _ => exact hP 22 _ rfl
  | 22, _ => exact hP 23 _ rfl
  | 23, _ => exact hP 24 _ rfl
  | 24, _ => exact hP 0 _ rfl
  | 25, _ => exact hP 25 _ rfl
  | 26, _ => exact hP 26 _ rfl
  | 27, _ =>
    have h1 : H[u 27]? = some (vp_cell cy.2.2 (4, .inr (.inr (.inr (.inr (va_up (va_up (va_up (va_up (fun _ => none) 0 (some (u 29))) 1 (some (u 31))) 2 (some (u 33))) 3 (some (u 35)))))))) := hP 27 _ rfl
    rw [arrq_congr (g := fun k => some (adC h0 u (29 + 2 * k))) (fun j hj => by rcases (show j = 0 ∨ j = 1 ∨ j = 2 ∨ j = 3 by omega) with rfl | rfl | rfl | rfl <;> rfl)] at h1
    exact h1
  | 28, _ => exact hP 28 _ rfl
  | 29, _ => exact hP 29 _ rfl
  | 30, _ => exact hP 30 _ rfl
  | 31, _ => exact hP 31 _ rfl
  | 32, _ => exact hP 32 _ rfl
  | 33, _ => exact hP 33 _ rfl
  | 34, _ => exact hP 34 _ rfl
  | 35, _ => exact hP 35 _ rfl
  | 36, _ => exact hP 36 _ rfl
set_option maxRecDepth 100000 in
set_option maxHeartbeats 8000000 in
theorem toM {D : va_G} {cy : ClassId × ClassId × ClassId} {a0 : Nat → Nat} {h0 : Nat} {u : Nat → Nat} {H : Heap} (hP : va_P D vwCl (wsFM (D, cy, a0) h0 u) H) : va_P D vwCl (gW 11 (adM h0 u) (cM (D, cy, adM h0 u) V0M)) H := by
  intro k q hq
  obtain ⟨hk, rfl⟩ := gW_some hq
  match k, hk with
  | 0, _ => exact hP 0 _ rfl
  | 1, _ => exact hP 1 _ rfl
  | 2, _ => exact hP 2 _ rfl
  | 3, _ => exact hP 3 _ rfl
  | 4, _ => exact hP 4 _ rfl
  | 5, _ => exact hP 5 _ rfl
  | 6, _ => exact hP 6 _ rfl
  | 7, _ => exact hP 7 _ rfl
  | 8, _ => exact hP 8 _ rfl
  | 9, _ => exact hP 9 _ rfl
  | 10, _ => exact hP 10 _ rfl
set_option maxRecDepth 100000 in
set_option maxHeartbeats 8000000 in
theorem atC {G : Gd} {h0 : Nat} {u : Nat → Nat} {wm : va_W} : ∀ c, c < 37 → ∃ (pl : Nat) (e : va_E), (wsFC G h0 u ++ wm)[pl]? = some (adC h0 u c, e) ∧ pl = (if c < 24 then c + 1 else if c = 24 then 0 else c) := by
  intro c hc
  match c, hc with
  | 0, _ => exact ⟨1, _, rfl, rfl⟩
  | 1, _ => exact ⟨2, _, rfl, rfl⟩
  | 2, _ => exact ⟨3, _, rfl, rfl⟩
  | 3, _ => exact ⟨4, _, rfl, rfl⟩
  | 4, _ => exact ⟨5, _, rfl, rfl⟩
  | 5, _ => exact ⟨6, _, rfl, rfl⟩
  | 6, _ => exact ⟨7, _, rfl, rfl⟩
  | 7, _ => exact ⟨8, _, rfl, rfl⟩
  | 8, _ => exact ⟨9, _, rfl, rfl⟩
  | 9, _ => exact ⟨10, _, rfl, rfl⟩
  | 10, _ => exact ⟨11, _, rfl, rfl⟩
  | 11, _ => exact ⟨12, _, rfl, rfl⟩
  | 12, _ => exact ⟨13, _, rfl, rfl⟩
  | 13, _ => exact ⟨14, _, rfl, rfl⟩
  | 14, _ => exact ⟨15, _, rfl, rfl⟩
  | 15, _ => exact ⟨16, _, rfl, rfl⟩
  | 16, _ => exact ⟨17, _, rfl, rfl⟩
  | 17, _ => exact ⟨18, _, rfl, rfl⟩
  | 18, _ => exact ⟨19, _, rfl, rfl⟩
  | 19, _ => exact ⟨20, _, rfl, rfl⟩
  | 20, _ => exact ⟨21, _, rfl, rfl⟩
  | 21, _ => exact ⟨22, _, rfl, rfl⟩
  | 22, _ => exact ⟨23, _, rfl, rfl⟩
  | 23, _ => exact ⟨24, _, rfl, rfl⟩
  | 24, _ => exact ⟨0, _, rfl, rfl⟩
  | 25, _ => exact ⟨25, _, rfl, rfl⟩
  | 26, _ => exact ⟨26, _, rfl, rfl⟩
  | 27, _ => exact ⟨27, _, rfl, rfl⟩
  | 28, _ => exact ⟨28, _, rfl, rfl⟩
  | 29, _ => exact ⟨29, _, rfl, rfl⟩
  | 30, _ => exact ⟨30, _, rfl, rfl⟩
  | 31, _ => exact ⟨31, _, rfl, rfl⟩
  | 32, _ => exact ⟨32, _, rfl, rfl⟩
  | 33, _ => exact ⟨33, _, rfl, rfl⟩
  | 34, _ => exact ⟨34, _, rfl, rfl⟩
  | 35, _ => exact ⟨35, _, rfl, rfl⟩
  | 36, _ => exact ⟨36, _, rfl, rfl⟩
  | n + 37, h => exact absurd h (by omega)
set_option maxRecDepth 100000 in
set_option maxHeartbeats 8000000 in
theorem atM {G : Gd} {h0 : Nat} {u : Nat → Nat} {hM : Nat} {v : Nat → Nat} : ∀ c, c < 11 → ∃ (e : va_E), (wsFC G h0 u ++ wsFM G hM v)[37 + c]? = some (adM hM v c, e) := by
  intro c hc
  match c, hc with
  | 0, _ => exact ⟨_, rfl⟩
  | 1, _ => exact ⟨_, rfl⟩
  | 2, _ => exact ⟨_, rfl⟩
  | 3, _ => exact ⟨_, rfl⟩
  | 4, _ => exact ⟨_, rfl⟩
  | 5, _ => exact ⟨_, rfl⟩
  | 6, _ => exact ⟨_, rfl⟩
  | 7, _ => exact ⟨_, rfl⟩
  | 8, _ => exact ⟨_, rfl⟩
  | 9, _ => exact ⟨_, rfl⟩
  | 10, _ => exact ⟨_, rfl⟩
theorem injC {A : Nat → Prop} {G : Gd} {h0 : Nat} {u : Nat → Nat} {wm : va_W} (hD : va_D A (wsFC G h0 u ++ wm)) : Inj 37 (adC h0 u) ∧ ∀ c, c < 37 → A (adC h0 u c) := by
  refine ⟨fun i j hi hj h => ?_, fun c hc => ?_⟩
  · obtain ⟨p1, e1, h1, q1⟩ := atC (G := G) (h0 := h0) (u := u) (wm := wm) i hi
    obtain ⟨p2, e2, h2, q2⟩ := atC (G := G) (h0 := h0) (u := u) (wm := wm) j hj
    have := hD.1 p1 p2 _ _ h1 h2 h
    rw [q1, q2] at this
    split at this <;> split at this <;> (try split at this) <;> (try split at this) <;> omega
  · obtain ⟨p1, e1, h1, q1⟩ := atC (G := G) (h0 := h0) (u := u) (wm := wm) c hc
    exact hD.2 p1 _ h1
theorem injM {A : Nat → Prop} {G : Gd} {h0 : Nat} {u : Nat → Nat} {hM : Nat} {v : Nat → Nat} (hD : va_D A (wsFC G h0 u ++ wsFM G hM v)) : Inj 11 (adM hM v) ∧ (∀ c, c < 11 → A (adM hM v c)) ∧ ∀ i j, i < 37 → j < 11 → adC h0 u i ≠ adM hM v j := by
  refine ⟨fun i j hi hj h => ?_, fun c hc => ?_, fun i j hi hj h => ?_⟩
  · obtain ⟨e1, h1⟩ := atM (G := G) (h0 := h0) (u := u) (hM := hM) (v := v) i hi
    obtain ⟨e2, h2⟩ := atM (G := G) (h0 := h0) (u := u) (hM := hM) (v := v) j hj
    have := hD.1 _ _ _ _ h1 h2 h
    omega
  · obtain ⟨e1, h1⟩ := atM (G := G) (h0 := h0) (u := u) (hM := hM) (v := v) c hc
    exact hD.2 _ _ h1
  · obtain ⟨p1, e1, h1, q1⟩ := atC (G := G) (h0 := h0) (u := u) (wm := wsFM G hM v) i hi
    obtain ⟨e2, h2⟩ := atM (G := G) (h0 := h0) (u := u) (hM := hM) (v := v) j hj
    have := hD.1 _ _ _ _ h1 h2 h
    rw [q1] at this
    split at this <;> (try split at this) <;> omega
section CP
variable {p : Program} {l : Launch} {e : Env} {R : Room} {s : State} {m : MethodId} {args : Array Value} {below : List Frame} {meth : Method} {c : Code} {H : Heap} {locs : List Loc} {Q : State → Prop} {cells slots : Nat}
variable {cc : ByteArray} {pc nL : Nat} {ls : Array Slot} {rest : List Value} {G : Gd} {X : State → Prop} {own : String} {A : Nat → Prop}
theorem rctorP {y : MethodName} {bytes : ByteArray} {maxL fr mc ms lo idx : Nat} {wr : va_W} {b : Nat} {e0 : va_E} {wsF : (Nat → Nat) → va_W} (S : CallFix p m c cc nL s args TG own) (hK : va_K G.1 vwCl (tyL G) s) (hX : XV X) (hXs : X s) (hP : va_P G.1 vwCl (wr ++ [(b, e0)]) H) (hD : va_D A (wr ++ [(b, e0)])) (hS : va_S A s.heap H locs) (hA : ∀ q : Nat, s.heap.size ≤ q → A q) (hls : ls.size = nL)
    (hM : MC l G X y bytes maxL fr mc ms lo b e0 wsF) (hN : Cond.methodLink own idx y ∈ TG) (hc : Cond.code y bytes maxL none ∈ TG) (hi : Cond.initialized y.cls ∈ TG) (hm : Cond.instanceMethod y ∈ TG) (hy : y.name = "<init>") (hdd : y.cls ≠ "java/lang/invoke/MethodHandle" ∧ y.cls ≠ "java/lang/invoke/VarHandle" ∧ (parseMethodDescriptor y.desc).map (fun d => d.parameters.length) = some 0) (hR : fr + 1 ≤ R.frames ∧ 8 + (maxL + 11) + lo ≤ R.locals) (hr8 : (rest.map fun v => v.category).sum ≤ 8) (hdg : decode cc pc = .ok (.invokespecial idx, 3)) (hf : cells + mc ≤ R.cells ∧ slots + ms ≤ R.slots)
    (kk : ∀ (u : Nat → Nat) (H1 : Heap) (locs1 : List Loc), va_P G.1 vwCl (wr ++ wsF u) H1 → va_D A (wr ++ wsF u) → va_S A s.heap H1 locs1 → W p l e R s m args below meth c H1 locs1 (cells + mc) (slots + ms) Q (F0 m (pc + 3) ls rest)) : W p l e R s m args below meth c H locs cells slots Q (F0 m pc ls (.ref b :: rest)) := by
  have ht := S.2.2.2.2
  obtain ⟨hP1, hD1⟩ := one_last hP hD
  have hF := free_last hD hS hA
  refine va_callv (va_runI (As := []) (rest := rest) S (hM H.size) ⟨callB_of 0 ht (wsM_good hc) rfl rfl rfl (ht _ hi) (ht _ hN) hdd hR, hy, ht _ hm⟩ ⟨fun a U g mk q => ?_, fun U hU hW => ⟨rfl, by rw [hU], by rw [hU]; exact hP1, va_K.moved hW.alike hK, hD1, hX.2 s U hXs hW⟩⟩ rfl rfl hls rfl (lv_room hr8) hdg hf) hS (fun q _ h => hF q h) hF (fun u t H1 locs1 ht1 _ _ hB _ hk1 hS1 => ?_)
  · obtain ⟨q0, q1, qP, qK, qD, qX⟩ := q
    exact ⟨q0, q1, qP, va_K.moved (u := U) (U := U.calling g mk a) (Vm.Alike.refl U.vm) qK, qD, hX.1 U g mk a qX⟩
  · obtain ⟨hB1, hB2⟩ := hB
    rw [ht1] at hB1
    obtain ⟨h1, h2⟩ := join_last hP hD hk1 hF hB1 hB2
    exact kk u H1 locs1 h1 h2 hS1
end CP
theorem xv_T : XV (fun _ => True) := ⟨fun _ _ _ _ _ => trivial, fun _ _ _ _ => trivial⟩
theorem xv_F : XV XF := by
  refine ⟨fun U g mk a h => ?_, fun s U h hW => ?_⟩
  · exact ⟨va_AO.moved (u := U) (Vm.Alike.refl U.vm) h.1, va_Nw.same rfl (u := U) rfl h.2.1, va_Nw.same rfl (u := U) rfl h.2.2.1, va_Nw.same rfl (u := U) rfl h.2.2.2⟩
  · exact ⟨va_AO.moved hW.alike h.1, h.2.1.warmM hW, h.2.2.1.warmM hW, h.2.2.2.warmM hW⟩
/-! the texts and statics of the start -/
def tmS (i : Nat) : Term := .string "FogKept$Tape" (poolS.getD i 0)
abbrev gn1 : Cond := Jvm.Cond.and given_1 narrow_1
theorem gs_ex : ∀ i, i < 13 → Cond.exactly (tmS i) "java/lang/String" ∈ flatC gn1 := by decide +kernel
theorem gs_co : ∀ i, i < 13 → Cond.eq (.field (tmS i) "java/lang/String" "coder" "B") (.int 0) ∈ flatC gn1 := by decide +kernel
theorem gs_ar : ∀ i, i < 13 → Cond.arrayOf (.field (tmS i) "java/lang/String" "value" "[B") .byte ∈ flatC gn1 := by decide +kernel
theorem gs_le : ∀ i, i < 13 → Cond.eq (.length (.field (tmS i) "java/lang/String" "value" "[B")) (.int (Int32.ofNat (lenS.getD i 0))) ∈ flatC gn1 := by decide +kernel
theorem gs_el : ∀ i, i < 13 → ∀ j, j < lenS.getD i 0 → Cond.eq (.elem (.field (tmS i) "java/lang/String" "value" "[B") (.int (Int32.ofNat j))) (.int ((bytS.getD i []).getD j 0)) ∈ flatC gn1 := by decide +kernel
theorem gs_ne : ∀ i, i < 13 → ∀ j, j < 13 → i ≠ j → (Cond.not (Cond.eq (tmS i) (tmS j)) ∈ flatC gn1 ∨ Cond.not (Cond.eq (tmS j) (tmS i)) ∈ flatC gn1) := by decide +kernel
theorem gs_sr : ∀ i, i < 13 → Cond.stringRef "FogKept$Tape" (poolS.getD i 0) (textS.getD i "") ∈ lw_tbl := by decide +kernel
theorem gk_ar : Cond.arrayOf (.static "FogKept" "KIND_ABOVE" "[I") .int ∈ flatC gn1 := by decide +kernel
theorem gk_le : Cond.eq (.length (.static "FogKept" "KIND_ABOVE" "[I")) (.int 6) ∈ flatC gn1 := by decide +kernel
theorem gk_el : ∀ j, j < 6 → Cond.eq (.elem (.static "FogKept" "KIND_ABOVE" "[I") (.int (Int32.ofNat j))) (.int (kaV j)) ∈ flatC gn1 := by decide +kernel
theorem gk_cs : Cond.eq (.static "java/lang/String" "COMPACT_STRINGS" "Z") (.int 1) ∈ flatC gn1 := by decide +kernel
theorem gk_si : Cond.isRef (.static "jdk/internal/util/Preconditions" "SIOOBE_FORMATTER" "Ljava/util/function/BiFunction;") ∈ flatC gn1 := by decide +kernel
theorem tl (i : Nat) {w : Cond} (h : lw_tbl[i]? = some w) : w ∈ lw_tbl := List.mem_of_getElem? h
theorem start_X {s : State} {b : Nat} {G : Gd} (hts : ∀ w ∈ lw_tbl, w.before #[Value.ref b] s = true) (hgv : gn1.before #[Value.ref b] s = true) (hA : ∀ a : Nat, a < s.heap.size → ¬ inA 37 G.2.2 a) : ∃ ks : Ks, XC G ks s := by
  have hs := flat_of_before _ hgv
  obtain ⟨t, ht, hT⟩ := va_Tof (N := 6) (f := fun j => .int (kaV j)) (A := inA 37 G.2.2) (by decide) (hs _ gk_ar) (va_eqt (hs _ gk_le)) (fun j hj => va_eqt (hs _ (gk_el j hj))) hA
  obtain ⟨adK, adV, hS, hev⟩ := vk_Sof (N := 13) (tm := tmS) (len := lenS) (byt := bytS) (A := inA 37 G.2.2) lenS_lt (fun i hi => hs _ (gs_ex i hi)) (fun i hi => hs _ (gs_co i hi)) (fun i hi => hs _ (gs_ar i hi)) (fun i hi => hs _ (gs_le i hi)) (fun i hi j hj => hs _ (gs_el i hi j hj)) (fun i j hi hj hij => (gs_ne i hi j hj hij).elim (fun h => Or.inl (hs _ h)) (fun h => Or.inr (hs _ h))) hA
  refine ⟨(adK, adV, t), va_Zref (hts _ (tl 315 (by decide +kernel))) (hts _ (tl 73 (by decide +kernel))) ht hA, hT, hS, fun i hi => vk_R.of (hts _ (gs_sr i hi)) (hev i hi), va_Zof (hts _ (tl 553 (by decide +kernel))) (hts _ (tl 81 (by decide +kernel))) (va_eqt (hs _ gk_cs)) hA, va_Zqof (hts _ (tl 569 (by decide +kernel))) (hts _ (tl 83 (by decide +kernel))) (hs _ gk_si) hA, va_Nw.of rfl (hts _ (tl 275 (by decide +kernel))), va_Nw.of rfl (hts _ (tl 284 (by decide +kernel))), va_Nw.of rfl (hts _ (tl 378 (by decide +kernel)))⟩
theorem start_K {s : State} {b : Nat} (hts : ∀ w ∈ lw_tbl, w.before #[Value.ref b] s = true) : ∃ (D : va_G) (cy : ClassId × ClassId × ClassId), ∀ ad, va_K D vwCl (tyL (D, cy, ad)) s := by
  obtain ⟨c0, iS0, k0⟩ := u_known (C := RX0) (T := TX0) (N := 11) (n := 11) hts inX0 (hts (.instantiable RX0 11) (tl 94 (by decide +kernel)))
  obtain ⟨c1, iS1, k1⟩ := u_known (C := RX1) (T := TX1) (N := 3) (n := 3) hts inX1 (hts (.instantiable RX1 3) (tl 180 (by decide +kernel)))
  obtain ⟨c2, iS2, k2⟩ := u_known (C := RX2) (T := TX2) (N := 7) (n := 7) hts inX2 (hts (.instantiable RX2 7) (tl 150 (by decide +kernel)))
  obtain ⟨c3, iS3, k3⟩ := u_known (C := RX3) (T := TX3) (N := 7) (n := 7) hts inX3 (hts (.instantiable RX3 7) (tl 86 (by decide +kernel)))
  obtain ⟨c4, iS4, k4⟩ := u_known (C := RX4) (T := TX4) (N := 18) (n := 18) hts inX4 (hts (.instantiable RX4 18) (tl 696 (by decide +kernel)))
  obtain ⟨cI, kI, pI, fI, hI, eI⟩ := Cond.arrayClass_spec (hts (.arrayClass .int) (tl 148 (by decide +kernel)))
  obtain ⟨cJ, kJ, pJ, fJ, hJ, eJ⟩ := Cond.arrayClass_spec (hts (.arrayClass .long) (tl 198 (by decide +kernel)))
  obtain ⟨pS, cS, kS, gS, -, hS, eS, fS⟩ := Cond.arrayOver_spec (n := "FogKept$Sheet") (hts (.arrayOver (.object "FogKept$Sheet")) (tl 179 (by decide +kernel)))
  refine ⟨(fun k => [c0, c1, c2, c3, c4].getD k 0, fun k => [iS0, iS1, iS2, iS3, iS4].getD k (fun _ => 0)), (cI, cJ, cS), fun ad => ⟨fun k q hq => ?_, fun k q hq => ?_⟩⟩
  · match k, hq with
    | 0, hq => cases hq; exact k0
    | 1, hq => cases hq; exact k1
    | 2, hq => cases hq; exact k2
    | 3, hq => cases hq; exact k3
    | 4, hq => cases hq; exact k4
    | k + 5, hq => simp [vwCl] at hq
  · match k, hq with
    | 0, hq => cases hq; exact ⟨fun N z => ⟨(fun k h => by cases h), kI, hI, pI, eI⟩, fI⟩
    | 1, hq => cases hq; exact ⟨fun N z => ⟨(fun k h => by cases h), kJ, hJ, pJ, eJ⟩, fJ⟩
    | 2, hq => cases hq; exact ⟨fun N z => ⟨(fun k h => by cases h), kS, hS, pS, eS⟩, kS, pS, hS, eS, gS, fS⟩
    | k + 3, hq => simp at hq

theorem sw1 : Cond.classLink RL 7 RX3 ∈ TG := tg 85 (by decide +kernel) (by decide +kernel)
theorem sw2 : Cond.instantiable RX3 7 ∈ TG := tg 86 (by decide +kernel) (by decide +kernel)
theorem sw3 : Cond.initialized RX3 ∈ TG := tg 73 (by decide +kernel) (by decide +kernel)
theorem sw4 : Cond.methodLink RL 9 yX3_init ∈ TG := tg 87 (by decide +kernel) (by decide +kernel)
theorem sw5 : Cond.code yX3_init cX3_init 2 none ∈ TG := tg 89 (by decide +kernel) (by decide +kernel)
theorem sw6 : Cond.instanceMethod yX3_init ∈ TG := tg 88 (by decide +kernel) (by decide +kernel)
theorem sw7 : Cond.classLink RL 10 RX4 ∈ TG := tg 695 (by decide +kernel) (by decide +kernel)
theorem sw8 : Cond.instantiable RX4 18 ∈ TG := tg 696 (by decide +kernel) (by decide +kernel)
theorem sw9 : Cond.initialized RX4 ∈ TG := tg 77 (by decide +kernel) (by decide +kernel)
theorem sw10 : Cond.methodLink RL 12 yX4_init ∈ TG := tg 697 (by decide +kernel) (by decide +kernel)
theorem sw11 : Cond.code yX4_init cX4_init 1 none ∈ TG := tg 699 (by decide +kernel) (by decide +kernel)
theorem sw12 : Cond.instanceMethod yX4_init ∈ TG := tg 698 (by decide +kernel) (by decide +kernel)
set_option maxRecDepth 100000 in
set_option maxHeartbeats 8000000 in
theorem law_start {p : Program} {e : Env} {s : State} {m : MethodId} {below : List Frame} {meth : Method} {c : Code} (l : Launch) {Rel : VV → VV → Prop} (hops : Ops Rel) (h0 : Rel V0C V0M) {b L : Nat} {xs : Nat → Int32} (hL : L ≤ 3072) (C0 : lw_At p s m meth c b L xs) : W p l e room_1 s m #[Value.ref b] below meth c s.heap [] 0 0 (lw_Z below #[Value.ref b] s) (entryFrame m ([Value.ref b] : List Value).toArray 4) := by
  obtain ⟨hx, hb, hr, hml, hown, htl, hX, hbl, hlocks, hgv⟩ := C0
  have hts : ∀ w ∈ TG, w.before #[Value.ref b] s = true := fun w h => htl w (List.mem_filter.mp h).1
  have S : CallFix p m c code 4 s #[Value.ref b] TG RL := ⟨hx, hb, hml, hown, hts⟩
  obtain ⟨D, cy, hKa⟩ := start_K htl
  obtain ⟨G, hG⟩ : ∃ G : Gd, G = (D, cy, fun _ => 0) := ⟨_, rfl⟩
  have hK : va_K G.1 vwCl (tyL G) s := by rw [hG]; exact hKa _
  have hXF : XF s := ⟨va_AO.of (htl _ (tl 179 (by decide +kernel))), va_Nw.of rfl (htl _ (tl 95 (by decide +kernel))), va_Nw.of rfl (htl _ (tl 151 (by decide +kernel))), va_Nw.of rfl (htl _ (tl 181 (by decide +kernel)))⟩
  have hA : ∀ q : Nat, s.heap.size ≤ q → lwA s q := fun _ h => h
  have hS : va_S (lwA s) s.heap s.heap [] := va_S.rf
  have hP : va_P G.1 vwCl [] s.heap := fun k q h => by simp at h
  have hD : va_D (lwA s) [] := ⟨fun i j p q h => by simp at h, fun k q h => by simp at h⟩
  have hl := lv_entry ([.ref b]) (n := 4) (Nat.le_of_ble_eq_true rfl)
  rw [lg_entry_eq]
  generalize (lg_sl ([.ref b]) ++ List.replicate (4 - (lg_sl ([.ref b])).length) Slot.unset).toArray = ls at hl ⊢
  replace hl : lv_has ls 4 [(0, .ref b)] := hl
  refine va_new (ci := 3) (fs := [.null, .null, .null, .int 0, .null, .null, .null]) (C := RX3) (T := TX3) (N := 7) hx hb hts tgX3 tyX3 tyX3_ok hown (hts _ sw1) (hts _ sw2) (hts _ sw3) hK hP hD hS hA rfl (fun j hj => by rcases (show j = 0 ∨ j = 1 ∨ j = 2 ∨ j = 3 ∨ j = 4 ∨ j = 5 ∨ j = 6 by omega) with rfl | rfl | rfl | rfl | rfl | rfl | rfl <;> rfl) (Nat.le_of_ble_eq_true rfl) (Nat.le_of_ble_eq_true rfl) dL_law_0 (fun q0 H hP hD hS => ?_)
  replace hP : va_P G.1 vwCl ([] ++ [(q0, .inr (3, [.null, .null, .null, .int 0, .null, .null, .null]))]) H := hP
  replace hD : va_D (lwA s) ([] ++ [(q0, .inr (3, [.null, .null, .null, .int 0, .null, .null, .null]))]) := hD
  refine lv_dup hx hb dL_law_3 rfl ?_
  refine rctorP (wr := []) S hK xv_F hXF hP hD hS hA hl.1 (c_X3_init l G) sw4 sw5 sw3 sw6 rfl (by decide +kernel) ⟨Nat.le_of_ble_eq_true rfl, Nat.le_of_ble_eq_true rfl⟩ (rest := [.ref q0]) (Nat.le_of_ble_eq_true rfl) dL_law_4 ⟨Nat.le_of_ble_eq_true rfl, Nat.le_of_ble_eq_true rfl⟩ (fun u H locs hP hD hS => ?_)
  replace hP : va_P G.1 vwCl (wsFC G q0 u) H := hP
  replace hD : va_D (lwA s) (wsFC G q0 u) := hD
  refine lv_astore_n (lv' := [(1, .ref q0), (0, .ref b)]) hx hb dL_law_7 rfl hl (by decide) rfl (fun ls hl => ?_)
  refine va_new (ci := 4) (fs := [.null, .null, .null, .null, .null, .int 0, .int 0, .int 0, .null, .int 0, .int 0, .int 0, .int 0, .int 0, .null, .null, .null, .null]) (C := RX4) (T := TX4) (N := 18) hx hb hts tgX4 tyX4 tyX4_ok hown (hts _ sw7) (hts _ sw8) (hts _ sw9) hK hP hD hS hA rfl (fun j hj => by rcases (show j = 0 ∨ j = 1 ∨ j = 2 ∨ j = 3 ∨ j = 4 ∨ j = 5 ∨ j = 6 ∨ j = 7 ∨ j = 8 ∨ j = 9 ∨ j = 10 ∨ j = 11 ∨ j = 12 ∨ j = 13 ∨ j = 14 ∨ j = 15 ∨ j = 16 ∨ j = 17 by omega) with rfl | rfl | rfl | rfl | rfl | rfl | rfl | rfl | rfl | rfl | rfl | rfl | rfl | rfl | rfl | rfl | rfl | rfl <;> rfl) (Nat.le_of_ble_eq_true rfl) (Nat.le_of_ble_eq_true rfl) dL_law_8 (fun q1 H hP hD hS => ?_)
  refine lv_dup hx hb dL_law_11 rfl ?_
  refine rctorP (wr := wsFC G q0 u) S hK xv_T trivial hP hD hS hA hl.1 (c_X4_init l G) sw10 sw11 sw9 sw12 rfl (by decide +kernel) ⟨Nat.le_of_ble_eq_true rfl, Nat.le_of_ble_eq_true rfl⟩ (rest := [.ref q1]) (Nat.le_of_ble_eq_true rfl) dL_law_12 ⟨Nat.le_of_ble_eq_true rfl, Nat.le_of_ble_eq_true rfl⟩ (fun v H locs hP hD hS => ?_)
  replace hP : va_P G.1 vwCl (wsFC G q0 u ++ wsFM G q1 v) H := hP
  replace hD : va_D (lwA s) (wsFC G q0 u ++ wsFM G q1 v) := hD
  refine lv_astore_n (lv' := [(2, .ref q1), (1, .ref q0), (0, .ref b)]) hx hb dL_law_15 rfl hl (by decide) rfl (fun ls hl => ?_)
  refine lv_iconst (v := 0) hx hb dL_law_16 (by decide) ?_
  refine lv_istore_n (lv' := [(3, .int 0), (2, .ref q1), (1, .ref q0), (0, .ref b)]) hx hb dL_law_17 rfl hl (by decide) rfl (fun ls hl => ?_)
  refine W.widen (k := 48) (n := 1111) (Nat.le_of_ble_eq_true rfl) (Nat.le_of_ble_eq_true rfl) ?_
  obtain ⟨i1, i2⟩ := injC hD
  obtain ⟨i3, i4, i5⟩ := injM hD
  have hPC : va_P G.1 vwCl (wsFC G q0 u) H := fun k q hq => hP k q (by rw [List.getElem?_append_left (List.getElem?_eq_some_iff.mp hq).1]; exact hq)
  have hPM : va_P G.1 vwCl (wsFM G q1 v) H := fun k q hq => hP (37 + k) q (by rw [List.getElem?_append_right (show (wsFC G q0 u).length ≤ 37 + k from Nat.le_add_right 37 k)]; rw [show 37 + k - (wsFC G q0 u).length = k from Nat.add_sub_cancel_left 37 k]; exact hq)
  subst hG
  obtain ⟨ks, hXs⟩ := start_X (G := (D, cy, adC q0 u)) htl hgv (fun a ha hin => by obtain ⟨k, hk, rfl⟩ := hin; exact absurd (i2 k hk) (Nat.not_le.mpr ha))
  exact law_loop (G1 := (D, cy, adC q0 u)) (G2 := (D, cy, adM q1 v)) (ks := ks) hops hL ⟨S, hX, hbl, hKa _, hKa _, i1, i3, hXs, i2, i4, i5⟩ hr hlocks (L + 1) 0 0 V0C V0M H locs ls (by omega) (by omega) nI_0.symm h0 ⟨toC hPC, toM hPM, hS⟩ (lv_sub hl [3, 2, 1, 0] rfl)
