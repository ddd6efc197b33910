/-! ===== rows for the class: copying, sheets, names ===== -/
def cpok (sp dp k : Int32) (N0 N1 : Nat) : Bool := !decide (sp < 0) && (!decide (dp < 0) && (!decide (k < 0) && (decide (sp.toNatClampNeg + k.toNatClampNeg ≤ N0) && decide (dp.toNatClampNeg + k.toNatClampNeg ≤ N1))))
theorem cpok_out {sp dp k : Int32} {N0 N1 : Nat} (h : cpok sp dp k N0 N1 = true) : ¬ sp < 0 ∧ ¬ dp < 0 ∧ ¬ k < 0 ∧ sp.toNatClampNeg + k.toNatClampNeg ≤ N0 ∧ dp.toNatClampNeg + k.toNatClampNeg ≤ N1 := by
  unfold cpok at h
  simpa using h
theorem cpI_ne {V : VV} {c1 c0 sp dp n i : Nat} (h : i ≠ c1) : (cpI V c1 c0 sp dp n).1 i = V.1 i := by simp [cpI, h]
theorem cpI_eq {V : VV} {c1 c0 sp dp n : Nat} : (cpI V c1 c0 sp dp n).1 c1 = va_cpy (V.1 c0) (V.1 c1) sp dp n := by simp [cpI]
theorem cpJ_ne {V : VV} {c1 c0 sp dp n i : Nat} (h : i ≠ c1) : (cpJ V c1 c0 sp dp n).2 i = V.2 i := by simp [cpJ, h]
theorem cpJ_eq {V : VV} {c1 c0 sp dp n : Nat} : (cpJ V c1 c0 sp dp n).2 c1 = va_cpy (V.2 c0) (V.2 c1) sp dp n := by simp [cpJ]
theorem cC_neC {G : Gd} {V V1 : VV} {c1 c0 sp dp n : Nat} (e : V1 = cpI V c1 c0 sp dp n) : ∀ i, i ≠ c1 → cC G V1 i = cC G V i := by
  intro i h
  unfold cC
  rw [e, cpI_ne h]
  rfl
theorem cC_neCJ {G : Gd} {V V1 : VV} {c1 c0 sp dp n : Nat} (e : V1 = cpJ V c1 c0 sp dp n) : ∀ i, i ≠ c1 → cC G V1 i = cC G V i := by
  intro i h
  unfold cC
  rw [e, cpJ_ne h]
  rfl
theorem cC_marr_c {G : Gd} {V V1 : VV} {j c0 sp dp n : Nat} (h : j < 3) (k : Nat) (h0 : 0 < k) (hk : k < 8) (e : V1 = cpI V (8 * j + k) c0 sp dp n) : cC G V1 (8 * j + k) = .inl (G.2.1.1, 8, .inl (va_cpy (V.1 c0) (V.1 (8 * j + k)) sp dp n)) := by
  rw [cC_marr h k h0 hk, e, cpI_eq]
theorem cC_sn_c {G : Gd} {V V1 : VV} {k c0 sp dp n : Nat} (h : k < 4) (e : V1 = cpJ V (29 + 2 * k + 1) c0 sp dp n) : cC G V1 (29 + 2 * k + 1) = .inl (G.2.1.2.1, 40, .inr (.inl (va_cpy (V.2 c0) (V.2 (29 + 2 * k + 1)) sp dp n))) := by
  rw [cC_sn h, e, cpJ_eq]
theorem aw_nat : Cond.native arraycopyName ∈ TG := tg 413 (by decide +kernel) (by decide +kernel)
theorem aw_st : Cond.static arraycopyName ∈ TG := tg 412 (by decide +kernel) (by decide +kernel)
theorem aw_in : Cond.initialized "java/lang/System" ∈ TG := tg 79 (by decide +kernel) (by decide +kernel)
theorem aw_X0 : Cond.methodLink RX0 46 arraycopyName ∈ TG := tg 411 (by decide +kernel) (by decide +kernel)
theorem aw_X3 : Cond.methodLink RX3 209 arraycopyName ∈ TG := tg 653 (by decide +kernel) (by decide +kernel)
theorem mw_l : Cond.methodLink RX2 134 Lib.Math.min.name ∈ TG := tg 520 (by decide +kernel) (by decide +kernel)
theorem mw_s : Cond.static Lib.Math.min.name ∈ TG := tg 521 (by decide +kernel) (by decide +kernel)
theorem mw_i : Cond.initialized "java/lang/Math" ∈ TG := tg 80 (by decide +kernel) (by decide +kernel)
theorem mw_c : Cond.code Lib.Math.min.name Lib.Math.min.code 2 (some .int) ∈ TG := tg 522 (by decide +kernel) (by decide +kernel)
theorem kaw : Cond.fieldLink RX3 245 "FogKept" "KIND_ABOVE" "[I" ∈ TG := tg 314 (by decide +kernel) (by decide +kernel)
theorem look_out2 {x : Int32} {a b oa ob d : Int} (ha : ¬ x = Int32.ofInt a) (hb : ¬ x = Int32.ofInt b) : Op.lookupswitch.offset [(a, oa), (b, ob)] d x.toInt = d := by
  have h1 : ¬ a = x.toInt := fun h => ha (by rw [h, Int32.ofInt_toInt])
  have h2 : ¬ b = x.toInt := fun h => hb (by rw [h, Int32.ofInt_toInt])
  simp [Op.lookupswitch.offset, h1, h2]
/-- the sheet that an answer of sheetOf names -/
def shO (G : Gd) (r : Int32) : Option Nat := if r < 0 then none else some (G.2.2 (29 + 2 * r.toNatClampNeg))
def MS (l : Launch) (G : Gd) (ks : Ks) (y : MethodName) (bytes : ByteArray) (maxL : Nat) (fr lo : Nat) (vals : List Value) (cell cell' : Nat → va_E) (r0 : Int32) : Prop := Met l y (wsM y bytes maxL (some (.object "FogKept$Sheet"))) (rmF fr lo) (va_Pc vals (PPs 37 G (XC G ks) cell)) (va_Qq (fun (o : Option Nat) (_ : Unit) => o = shO G r0) (fun _ t => PPt 37 G cell' t) (inA 37 G.2.2)) 0 0 (inA 37 G.2.2)
def MN (l : Launch) (G : Gd) (ks : Ks) (y : MethodName) (bytes : ByteArray) (maxL : Nat) (fr lo : Nat) (vals : List Value) (cell cell' : Nat → va_E) (r0 : Int32) : Prop := Met l y (wsM y bytes maxL (some (.object "java/lang/String"))) (rmF fr lo) (va_Pc vals (PPs 37 G (XC G ks) cell)) (va_Qr (fun (_ : Unit) => True) (fun _ a t => (a = ks.1 r0.toNatClampNeg ∧ r0.toNatClampNeg < 13) ∧ PPt 37 G cell' t) (inA 37 G.2.2)) 0 0 (inA 37 G.2.2)
section CR
variable {p : Program} {l : Launch} {e : Env} {R : Room} {s : State} {m : MethodId} {args : Array Value} {below : List Frame} {meth : Method} {c : Code} {H : Heap} {locs : List Loc} {Q : State → Prop}
variable {cc : ByteArray} {pc nL : Nat} {ls : Array Slot} {rest : List Value} {n : Nat} {G : Gd} {X : State → Prop} {cell cell' : Nat → va_E} {own : String} {ks : Ks}
variable {y : MethodName} {bytes : ByteArray} {maxL idx np fr lo : Nat} {ret : Option FieldType} {As : List Value} {st : List Value} {c0 ci N : Nat} {fs : List Value} {T : u_T} {V V' : VV}
theorem rcpI (C : Cx n G X p m c cc nL s args own) (hd : Dy n G cell s H locs) (hls : ls.size = nL) {c0 c1 N0 N1 : Nat} {f g : Nat → Int32} (hc0 : c0 < n) (he0 : cell c0 = .inl (G.2.1.1, N0, .inl f)) (hc1 : c1 < n) (he1 : cell c1 = .inl (G.2.1.1, N1, .inl g)) (hlink : Cond.methodLink own idx arraycopyName ∈ TG) {sp dp k : Int32} (hok : cpok sp dp k N0 N1 = true) (h1 : cell' c1 = .inl (G.2.1.1, N1, .inl (va_cpy f g sp.toNatClampNeg dp.toNatClampNeg k.toNatClampNeg))) (h2 : ∀ i, i ≠ c1 → cell' i = cell i) (hR : 1 ≤ R.frames ∧ 30 ≤ R.locals) (hr8 : (rest.map fun v => v.category).sum ≤ 8) (hdg : decode cc pc = .ok (.invokestatic idx, 3))
    (kk : ∀ (H : Heap) (locs : List Loc), Dy n G cell' s H locs → W p l e R s m args below meth c H locs 0 0 Q (F0 m (pc + 3) ls rest)) : W p l e R s m args below meth c H locs 0 0 Q (F0 m pc ls (.int k :: .int dp :: .ref (G.2.2 c1) :: .int sp :: .ref (G.2.2 c0) :: rest)) := by
  obtain ⟨g1, g2, g3, g4, g5⟩ := cpok_out hok
  have ht := C.1.2.2.2.2
  have hw : nativeFrameWords "java/lang/System" "arraycopy" 5 = 7 := by decide +kernel
  exact va_copyi C.1.1 C.1.2.1 (C.1.2.2.1.trans hls.symm) C.1.2.2.2.1 (ht _ hlink) (ht _ aw_nat) (ht _ aw_st) (ht _ aw_in) C.2.1 hd.1 (gW_D C.2.2.1) hd.2 c0 c1 0 0 (ty := .int) ((gW_at hc0).trans (by rw [he0])) ((gW_at hc1).trans (by rw [he1])) rfl rfl rfl g1 g2 g3 g4 g5 (fun _ _ => rfl) hR.1 (by rw [hw]; omega) hdg
    (fun H1 locs1 hP _ hS => kk H1 locs1 ⟨by rw [gW_set hc1 h1 h2] at hP; exact hP, hS⟩)
theorem rcpJ (C : Cx n G X p m c cc nL s args own) (hd : Dy n G cell s H locs) (hls : ls.size = nL) {c0 c1 N0 N1 : Nat} {f g : Nat → Int64} (hc0 : c0 < n) (he0 : cell c0 = .inl (G.2.1.2.1, N0, .inr (.inl f))) (hc1 : c1 < n) (he1 : cell c1 = .inl (G.2.1.2.1, N1, .inr (.inl g))) (hlink : Cond.methodLink own idx arraycopyName ∈ TG) {sp dp k : Int32} (hok : cpok sp dp k N0 N1 = true) (h1 : cell' c1 = .inl (G.2.1.2.1, N1, .inr (.inl (va_cpy f g sp.toNatClampNeg dp.toNatClampNeg k.toNatClampNeg)))) (h2 : ∀ i, i ≠ c1 → cell' i = cell i) (hR : 1 ≤ R.frames ∧ 30 ≤ R.locals) (hr8 : (rest.map fun v => v.category).sum ≤ 8) (hdg : decode cc pc = .ok (.invokestatic idx, 3))
    (kk : ∀ (H : Heap) (locs : List Loc), Dy n G cell' s H locs → W p l e R s m args below meth c H locs 0 0 Q (F0 m (pc + 3) ls rest)) : W p l e R s m args below meth c H locs 0 0 Q (F0 m pc ls (.int k :: .int dp :: .ref (G.2.2 c1) :: .int sp :: .ref (G.2.2 c0) :: rest)) := by
  obtain ⟨g1, g2, g3, g4, g5⟩ := cpok_out hok
  have ht := C.1.2.2.2.2
  have hw : nativeFrameWords "java/lang/System" "arraycopy" 5 = 7 := by decide +kernel
  exact va_copyl C.1.1 C.1.2.1 (C.1.2.2.1.trans hls.symm) C.1.2.2.2.1 (ht _ hlink) (ht _ aw_nat) (ht _ aw_st) (ht _ aw_in) C.2.1 hd.1 (gW_D C.2.2.1) hd.2 c0 c1 1 1 (ty := .long) ((gW_at hc0).trans (by rw [he0])) ((gW_at hc1).trans (by rw [he1])) rfl rfl rfl g1 g2 g3 g4 g5 (fun _ _ => rfl) hR.1 (by rw [hw]; omega) hdg
    (fun H1 locs1 hP _ hS => kk H1 locs1 ⟨by rw [gW_set hc1 h1 h2] at hP; exact hP, hS⟩)
theorem kVQ {r0 : Int32} (C : Cx 37 G (XC G ks) p m c cc nL s args own) (hd : Dy 37 G cell s H locs) (hls : ls.size = nL) (K : CWv own idx y bytes maxL (some (.object "FogKept$Sheet")) np) (hc : c0 < 37) (he : cell c0 = .inr (ci, fs)) (hcl : vwCl[ci]? = some (y.cls, T, N)) (hM : MS l G ks y bytes maxL fr lo (.ref (G.2.2 c0) :: As) cell cell' r0 ∧ (¬ r0 < 0 → r0.toNatClampNeg < 4)) (hR : fr + 1 ≤ R.frames ∧ 8 + (maxL + 11) + lo ≤ R.locals) (hn : As.length = np) (hst : st = As.reverse ++ .ref (G.2.2 c0) :: rest) (hr8 : (rest.map fun v => v.category).sum ≤ 8) (hdg : decode cc pc = .ok (.invokevirtual idx, 3))
    (kn : r0 < 0 → ∀ (H : Heap) (locs : List Loc), Dy 37 G cell' s H locs → W p l e R s m args below meth c H locs 0 0 Q (F0 m (pc + 3) ls (.null :: rest)))
    (kr : ¬ r0 < 0 → r0.toNatClampNeg < 4 → ∀ (H : Heap) (locs : List Loc), Dy 37 G cell' s H locs → W p l e R s m args below meth c H locs 0 0 Q (F0 m (pc + 3) ls (.ref (G.2.2 (29 + 2 * r0.toNatClampNeg)) :: rest))) : W p l e R s m args below meth c H locs 0 0 Q (F0 m pc ls st) := by
  refine va_callq (runV C hd hls K hc he hcl hM.1 hR hn hst hr8 hdg) hd.2 (fun _ _ h => h) (fun _ h => h) (fun r _ t H1 locs1 ht _ hw hB _ _ hS => ?_)
  subst hw
  by_cases h : r0 < 0
  · rw [show va_rf (shO G r0) = .null by rw [shO, if_pos h]; rfl]
    exact kn h H1 locs1 (dy_back ht hB hS)
  · rw [show va_rf (shO G r0) = .ref (G.2.2 (29 + 2 * r0.toNatClampNeg)) by rw [shO, if_neg h]; rfl]
    exact kr h (hM.2 h) H1 locs1 (dy_back ht hB hS)
theorem kSR {r0 : Int32} (C : Cx 37 G (XC G ks) p m c cc nL s args own) (hd : Dy 37 G cell s H locs) (hls : ls.size = nL) (K : CWs own idx y bytes maxL (some (.object "java/lang/String")) np) (hM : MN l G ks y bytes maxL fr lo As cell cell' r0) (hR : fr + 1 ≤ R.frames ∧ 8 + (maxL + 11) + lo ≤ R.locals) (hn : As.length = np) (hst : st = As.reverse ++ rest) (hr8 : (rest.map fun v => v.category).sum ≤ 8) (hdg : decode cc pc = .ok (.invokestatic idx, 3))
    (kk : ∀ (H : Heap) (locs : List Loc), r0.toNatClampNeg < 13 → Dy 37 G cell' s H locs → W p l e R s m args below meth c H locs 0 0 Q (F0 m (pc + 3) ls (.ref (ks.1 r0.toNatClampNeg) :: rest))) : W p l e R s m args below meth c H locs 0 0 Q (F0 m pc ls st) := by
  refine va_callr (runS C hd hls K hM hR hn hst hr8 hdg) hd.2 (fun _ _ h => h) (fun _ h => h) (fun _ a t H1 locs1 ht _ _ hB _ _ hS => ?_)
  obtain ⟨⟨h1, h2⟩, h3⟩ := hB
  rw [h1]
  exact kk H1 locs1 h2 (dy_back ht h3 hS)
theorem retSe {v r : Int32} {k : Nat} (C : Cx 37 G X p m c cc nL s args own) (hr : meth.sig.returnType = some (.object "java/lang/String")) (hlk : meth.locks = false) (hd : Dy 37 G (cC G V) s H locs) (hv : v.toNatClampNeg = k) (hk : k < 13) (he : some (v, V) = some (r, V')) (hdg : decode cc pc = .ok (.areturn, 1)) : W p l e R s m args below meth c H locs 0 0 (MQ below (va_Qr (fun (_ : Unit) => True) (fun _ a t => (a = ks.1 r.toNatClampNeg ∧ r.toNatClampNeg < 13) ∧ PPt 37 G (cC G V') t) (inA 37 G.2.2)) args s 0 0 (inA 37 G.2.2)) (F0 m pc ls [.ref (ks.1 k)]) := by
  cases he
  exact W.aret C.1.1 C.1.2.1 hr (Or.inl ⟨_, rfl⟩) (Or.inr ⟨_, rfl⟩) (fun t ht _ => ⟨⟨(), ks.1 k, rfl, trivial, ⟨by rw [hv], by rw [hv]; exact hk⟩, ppt_of ht hd.1⟩, hd.2.F ht⟩) hd.2.2.2 hdg hlk
theorem retQ {r : Int32} {v : Value} (C : Cx 37 G X p m c cc nL s args own) (hr : meth.sig.returnType = some (.object "FogKept$Sheet")) (hlk : meth.locks = false) (hd : Dy 37 G cell s H locs) (hv : v = va_rf (shO G r)) (hdg : decode cc pc = .ok (.areturn, 1)) : W p l e R s m args below meth c H locs 0 0 (MQ below (va_Qq (fun (o : Option Nat) (_ : Unit) => o = shO G r) (fun _ t => PPt 37 G cell t) (inA 37 G.2.2)) args s 0 0 (inA 37 G.2.2)) (F0 m pc ls [v]) := by
  subst hv
  refine W.aret C.1.1 C.1.2.1 hr (Or.inl ⟨_, rfl⟩) ?_ (fun t ht _ => ⟨⟨_, (), rfl, rfl, ppt_of ht hd.1⟩, hd.2.F ht⟩) hd.2.2.2 hdg hlk
  unfold shO
  by_cases h : r < 0
  · rw [if_pos h]; exact Or.inl rfl
  · rw [if_neg h]; exact Or.inr ⟨_, rfl⟩
end CR
def f_X3_sheetOf (a1 : Int32) (V : VV) : Option (Int32 × VV) := if a1 < 0 then some (-1, V) else if 4 ≤ a1 then some (-1, V) else some (a1, V)
theorem sh_in {a : Int32} (h0 : ¬ a < 0) (h1 : ¬ 4 ≤ a) : ∃ j : Nat, j < 4 ∧ a = nI j := by
  rcases pk_ix a (n := 4) (by decide) with h | h | h
  · exact absurd h h0
  · exact absurd h h1
  · exact h
set_option maxRecDepth 100000 in
set_option maxHeartbeats 4000000 in
theorem c_X3_sheetOf (l : Launch) (G : Gd) (ks : Ks) (hJ : Inj 37 G.2.2) {a1 : Int32} {V V' : VV} {r : Int32} (he : f_X3_sheetOf a1 V = some (r, V')) : MS l G ks yX3_sheetOf cX3_sheetOf 2 0 0 [.ref (G.2.2 24), .int a1] (cC G V) (cC G V') r ∧ (¬ r < 0 → r.toNatClampNeg < 4) := by
  unfold f_X3_sheetOf at he
  refine ⟨?_, fun hr => ?_⟩
  · refine walk_of (own := RX3) (by decide) rfl hJ (xs_C G ks) (Nat.le_of_ble_eq_true rfl) ?_
    intro p e s m below meth c C hr hlk ls hl hd
    have hl : lv_has ls 2 [(0, .ref (G.2.2 24)), (1, .int a1)] := hl
    obtain ⟨⟨hx, hb, hml, hown, hts⟩, -⟩ := id C
    refine lv_iload_n hx hb dX3_sheetOf_0 rfl (lv_at hl 1 rfl) ?_
    refine lv_if_lt (tgt := 18) hx hb dX3_sheetOf_1 (by decide) (fun hc1 => ?_) (fun hc1 => ?_)
    · replace he := i_t hc1 he
      cases he
      refine lv_null hx hb dX3_sheetOf_18 ?_
      exact retQ C hr hlk hd rfl dX3_sheetOf_19
    · replace he := i_f hc1 he
      refine lv_iload_n hx hb dX3_sheetOf_4 rfl (lv_at hl 1 rfl) ?_
      refine lv_iconst (v := 4) hx hb dX3_sheetOf_5 (by decide) ?_
      refine lv_icmp_ge (tgt := 18) hx hb dX3_sheetOf_6 (by decide) (fun hc2 => ?_) (fun hc2 => ?_)
      · replace he := i_t hc2 he
        cases he
        refine lv_null hx hb dX3_sheetOf_18 ?_
        exact retQ C hr hlk hd rfl dX3_sheetOf_19
      · replace he := i_f hc2 he
        cases he
        refine lv_aload_n hx hb dX3_sheetOf_9 rfl (lv_at hl 0 rfl) ?_
        refine rgetf C hd (by decide) cC24 rfl tgX3 5 (by decide) (show Cond.fieldLink RX3 35 (TX3 5).1 (TX3 5).2.1 (TX3 5).2.2.1 ∈ TG from tg 204 (by decide +kernel) (by decide +kernel)) rfl dX3_sheetOf_10 ?_
        refine lv_iload_n hx hb dX3_sheetOf_13 rfl (lv_at hl 1 rfl) ?_
        have hin : inb a1 4 = true := in_inb (by obtain ⟨j, hj, rfl⟩ := sh_in hc1 hc2; exact vp_in_nI hj (by decide))
        refine raald C hd (by decide) cC27 hin dX3_sheetOf_14 ?_
        refine lv_goto (tgt := 19) hx hb dX3_sheetOf_15 (by decide) ?_
        exact retQ C hr hlk hd (by rw [shO, if_neg hc1]) dX3_sheetOf_19
  · by_cases h1 : a1 < 0
    · replace he := i_t h1 he
      cases he
      exact absurd (by decide) hr
    · replace he := i_f h1 he
      by_cases h2 : 4 ≤ a1
      · replace he := i_t h2 he
        cases he
        exact absurd (by decide) hr
      · replace he := i_f h2 he
        cases he
        obtain ⟨j, hj, rfl⟩ := sh_in h1 h2
        rw [nI_clamp (by omega)]
        exact hj
