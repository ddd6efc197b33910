set_option maxRecDepth 100000 in
set_option maxHeartbeats 4000000 in
theorem law_fog {p : Program} {l : Launch} {e : Env} {s : State} {m : MethodId} {below : List Frame} {meth : Method} {c : Code} {b L : Nat} {xs : Nat → Int32} {G1 G2 : Gd} {ks : Ks} {H : Heap} {locs : List Loc} {ls : Array Slot} {VC VM : VV} {x3 : Int32} {Q : State → Prop} {Rel : VV → VV → Prop} (hop : Op1 Rel f_X3_fog f_X4_fog) (C : LwC p s m c b L xs G1 G2 ks) (hrel : Rel VC VM) (hd : LwD s G1 G2 VC VM H locs) (hl : lv_has ls 4 [(0, .ref b), (1, .ref (G1.2.2 24)), (2, .ref (G2.2.2 0)), (3, .int x3)]) (hin : ∀ j : Nat, j < 6 → vp_in (x3 + nI j) L)
    (kk : ∀ (VC VM : VV) (H : Heap) (locs : List Loc) (ls : Array Slot), Rel VC VM → LwD s G1 G2 VC VM H locs → lv_has ls 4 [(0, .ref b), (1, .ref (G1.2.2 24)), (2, .ref (G2.2.2 0)), (3, .int x3)] → W p l e room_1 s m #[Value.ref b] below meth c H locs 48 1111 Q (F0 m 1305 ls [])) : W p l e room_1 s m #[Value.ref b] below meth c H locs 48 1111 Q (F0 m 200 ls []) := by
  obtain ⟨S, hX, hbl, hK1, hK2, hJ1, hJ2, hXs, hge1, hge2, hdis⟩ := C
  obtain ⟨hx, hb, hml, hown, hts⟩ := id S
  have hbA : ¬ lwA s b := Nat.not_le.mpr hbl
  obtain ⟨r, VC1, VM1, h1, h2, hr1⟩ := hop VC VM hrel (xs (x3 + 1).toNatClampNeg)
  refine lv_aload_n hx hb dL_law_200 rfl (lv_at hl 1 rfl) ?_
  refine lv_aload_n hx hb dL_law_201 rfl (lv_at hl 0 rfl) ?_
  refine lv_iload_n hx hb dL_law_202 rfl (lv_at hl 3 rfl) ?_
  refine lv_iconst (v := 1) hx hb dL_law_203 (by decide) ?_
  refine lv_iadd hx hb dL_law_204 ?_
  refine va_sld hx hb hX hbl hbA hd.2.2 (hin 1 (by decide)) dL_law_205 ?_
  refine lcI S hK1 (xs_C G1 ks) hXs hge1 hd.1 hd.2.2 hl.1 lw_kw_L_13 (by decide) cC24 rfl (c_X3_fog l G1 ks hJ1 h1) ⟨Nat.le_of_ble_eq_true rfl, Nat.le_of_ble_eq_true rfl⟩ rfl (rest := []) rfl (Nat.le_of_ble_eq_true rfl) dL_law_206 ⟨Nat.le_of_ble_eq_true rfl, Nat.le_of_ble_eq_true rfl⟩ (fun H1 locs1 hQ hk1 hS1 => ?_)
  replace hd : LwD s G1 G2 VC1 VM H1 locs1 := ⟨hQ, gW_keep hd.2.1 hk1 (fun i j hi hj h => hdis j i hj hi h.symm), hS1⟩
  clear hQ hk1 hS1
  refine lv_aload_n hx hb dL_law_209 rfl (lv_at hl 2 rfl) ?_
  refine lv_aload_n hx hb dL_law_210 rfl (lv_at hl 0 rfl) ?_
  refine lv_iload_n hx hb dL_law_211 rfl (lv_at hl 3 rfl) ?_
  refine lv_iconst (v := 1) hx hb dL_law_212 (by decide) ?_
  refine lv_iadd hx hb dL_law_213 ?_
  refine va_sld hx hb hX hbl hbA hd.2.2 (hin 1 (by decide)) dL_law_214 ?_
  refine lcI S hK2 (xs_M G2) trivial hge2 hd.2.1 hd.2.2 hl.1 lw_kw_L_17 (by decide) cM0 rfl (c_X4_fog l G2 hJ2 h2) ⟨Nat.le_of_ble_eq_true rfl, Nat.le_of_ble_eq_true rfl⟩ rfl (rest := [.int _]) rfl (Nat.le_of_ble_eq_true rfl) dL_law_215 ⟨Nat.le_of_ble_eq_true rfl, Nat.le_of_ble_eq_true rfl⟩ (fun H1 locs1 hQ hk1 hS1 => ?_)
  replace hd : LwD s G1 G2 VC1 VM1 H1 locs1 := ⟨gW_keep hd.1 hk1 hdis, hQ, hS1⟩
  clear hQ hk1 hS1
  refine lv_icmp_eq (tgt := 1305) hx hb dL_law_218 (by decide) (fun _ => ?_) (fun hc => absurd rfl hc)
  exact kk VC1 VM1 _ _ _ hr1 hd hl
set_option maxRecDepth 100000 in
set_option maxHeartbeats 4000000 in
theorem law_village {p : Program} {l : Launch} {e : Env} {s : State} {m : MethodId} {below : List Frame} {meth : Method} {c : Code} {b L : Nat} {xs : Nat → Int32} {G1 G2 : Gd} {ks : Ks} {H : Heap} {locs : List Loc} {ls : Array Slot} {VC VM : VV} {x3 : Int32} {Q : State → Prop} {Rel : VV → VV → Prop} (hop : Op1 Rel f_X3_village f_X4_village) (C : LwC p s m c b L xs G1 G2 ks) (hrel : Rel VC VM) (hd : LwD s G1 G2 VC VM H locs) (hl : lv_has ls 4 [(0, .ref b), (1, .ref (G1.2.2 24)), (2, .ref (G2.2.2 0)), (3, .int x3)]) (hin : ∀ j : Nat, j < 6 → vp_in (x3 + nI j) L)
    (kk : ∀ (VC VM : VV) (H : Heap) (locs : List Loc) (ls : Array Slot), Rel VC VM → LwD s G1 G2 VC VM H locs → lv_has ls 4 [(0, .ref b), (1, .ref (G1.2.2 24)), (2, .ref (G2.2.2 0)), (3, .int x3)] → W p l e room_1 s m #[Value.ref b] below meth c H locs 48 1111 Q (F0 m 1305 ls [])) : W p l e room_1 s m #[Value.ref b] below meth c H locs 48 1111 Q (F0 m 223 ls []) := by
  obtain ⟨S, hX, hbl, hK1, hK2, hJ1, hJ2, hXs, hge1, hge2, hdis⟩ := C
  obtain ⟨hx, hb, hml, hown, hts⟩ := id S
  have hbA : ¬ lwA s b := Nat.not_le.mpr hbl
  obtain ⟨r, VC1, VM1, h1, h2, hr1⟩ := hop VC VM hrel (xs (x3 + 1).toNatClampNeg)
  refine lv_aload_n hx hb dL_law_223 rfl (lv_at hl 1 rfl) ?_
  refine lv_aload_n hx hb dL_law_224 rfl (lv_at hl 0 rfl) ?_
  refine lv_iload_n hx hb dL_law_225 rfl (lv_at hl 3 rfl) ?_
  refine lv_iconst (v := 1) hx hb dL_law_226 (by decide) ?_
  refine lv_iadd hx hb dL_law_227 ?_
  refine va_sld hx hb hX hbl hbA hd.2.2 (hin 1 (by decide)) dL_law_228 ?_
  refine lcI S hK1 (xs_C G1 ks) hXs hge1 hd.1 hd.2.2 hl.1 lw_kw_L_18 (by decide) cC24 rfl (c_X3_village l G1 ks hJ1 h1) ⟨Nat.le_of_ble_eq_true rfl, Nat.le_of_ble_eq_true rfl⟩ rfl (rest := []) rfl (Nat.le_of_ble_eq_true rfl) dL_law_229 ⟨Nat.le_of_ble_eq_true rfl, Nat.le_of_ble_eq_true rfl⟩ (fun H1 locs1 hQ hk1 hS1 => ?_)
  replace hd : LwD s G1 G2 VC1 VM H1 locs1 := ⟨hQ, gW_keep hd.2.1 hk1 (fun i j hi hj h => hdis j i hj hi h.symm), hS1⟩
  clear hQ hk1 hS1
  refine lv_aload_n hx hb dL_law_232 rfl (lv_at hl 2 rfl) ?_
  refine lv_aload_n hx hb dL_law_233 rfl (lv_at hl 0 rfl) ?_
  refine lv_iload_n hx hb dL_law_234 rfl (lv_at hl 3 rfl) ?_
  refine lv_iconst (v := 1) hx hb dL_law_235 (by decide) ?_
  refine lv_iadd hx hb dL_law_236 ?_
  refine va_sld hx hb hX hbl hbA hd.2.2 (hin 1 (by decide)) dL_law_237 ?_
  refine lcI S hK2 (xs_M G2) trivial hge2 hd.2.1 hd.2.2 hl.1 lw_kw_L_21 (by decide) cM0 rfl (c_X4_village l G2 hJ2 h2) ⟨Nat.le_of_ble_eq_true rfl, Nat.le_of_ble_eq_true rfl⟩ rfl (rest := [.int _]) rfl (Nat.le_of_ble_eq_true rfl) dL_law_238 ⟨Nat.le_of_ble_eq_true rfl, Nat.le_of_ble_eq_true rfl⟩ (fun H1 locs1 hQ hk1 hS1 => ?_)
  replace hd : LwD s G1 G2 VC1 VM1 H1 locs1 := ⟨gW_keep hd.1 hk1 hdis, hQ, hS1⟩
  clear hQ hk1 hS1
  refine lv_icmp_eq (tgt := 1305) hx hb dL_law_241 (by decide) (fun _ => ?_) (fun hc => absurd rfl hc)
  exact kk VC1 VM1 _ _ _ hr1 hd hl
set_option maxRecDepth 100000 in
set_option maxHeartbeats 4000000 in
theorem law_at {p : Program} {l : Launch} {e : Env} {s : State} {m : MethodId} {below : List Frame} {meth : Method} {c : Code} {b L : Nat} {xs : Nat → Int32} {G1 G2 : Gd} {ks : Ks} {H : Heap} {locs : List Loc} {ls : Array Slot} {VC VM : VV} {x3 : Int32} {Q : State → Prop} {Rel : VV → VV → Prop} (hop : Op1 Rel f_X3_at f_X4_at) (C : LwC p s m c b L xs G1 G2 ks) (hrel : Rel VC VM) (hd : LwD s G1 G2 VC VM H locs) (hl : lv_has ls 4 [(0, .ref b), (1, .ref (G1.2.2 24)), (2, .ref (G2.2.2 0)), (3, .int x3)]) (hin : ∀ j : Nat, j < 6 → vp_in (x3 + nI j) L)
    (kk : ∀ (VC VM : VV) (H : Heap) (locs : List Loc) (ls : Array Slot), Rel VC VM → LwD s G1 G2 VC VM H locs → lv_has ls 4 [(0, .ref b), (1, .ref (G1.2.2 24)), (2, .ref (G2.2.2 0)), (3, .int x3)] → W p l e room_1 s m #[Value.ref b] below meth c H locs 48 1111 Q (F0 m 1305 ls [])) : W p l e room_1 s m #[Value.ref b] below meth c H locs 48 1111 Q (F0 m 246 ls []) := by
  obtain ⟨S, hX, hbl, hK1, hK2, hJ1, hJ2, hXs, hge1, hge2, hdis⟩ := C
  obtain ⟨hx, hb, hml, hown, hts⟩ := id S
  have hbA : ¬ lwA s b := Nat.not_le.mpr hbl
  obtain ⟨r, VC1, VM1, h1, h2, hr1⟩ := hop VC VM hrel (xs (x3 + 1).toNatClampNeg)
  refine lv_aload_n hx hb dL_law_246 rfl (lv_at hl 1 rfl) ?_
  refine lv_aload_n hx hb dL_law_247 rfl (lv_at hl 0 rfl) ?_
  refine lv_iload_n hx hb dL_law_248 rfl (lv_at hl 3 rfl) ?_
  refine lv_iconst (v := 1) hx hb dL_law_249 (by decide) ?_
  refine lv_iadd hx hb dL_law_250 ?_
  refine va_sld hx hb hX hbl hbA hd.2.2 (hin 1 (by decide)) dL_law_251 ?_
  refine lcI S hK1 (xs_C G1 ks) hXs hge1 hd.1 hd.2.2 hl.1 lw_kw_L_22 (by decide) cC24 rfl (c_X3_at l G1 ks hJ1 h1) ⟨Nat.le_of_ble_eq_true rfl, Nat.le_of_ble_eq_true rfl⟩ rfl (rest := []) rfl (Nat.le_of_ble_eq_true rfl) dL_law_252 ⟨Nat.le_of_ble_eq_true rfl, Nat.le_of_ble_eq_true rfl⟩ (fun H1 locs1 hQ hk1 hS1 => ?_)
  replace hd : LwD s G1 G2 VC1 VM H1 locs1 := ⟨hQ, gW_keep hd.2.1 hk1 (fun i j hi hj h => hdis j i hj hi h.symm), hS1⟩
  clear hQ hk1 hS1
  refine lv_aload_n hx hb dL_law_255 rfl (lv_at hl 2 rfl) ?_
  refine lv_aload_n hx hb dL_law_256 rfl (lv_at hl 0 rfl) ?_
  refine lv_iload_n hx hb dL_law_257 rfl (lv_at hl 3 rfl) ?_
  refine lv_iconst (v := 1) hx hb dL_law_258 (by decide) ?_
  refine lv_iadd hx hb dL_law_259 ?_
  refine va_sld hx hb hX hbl hbA hd.2.2 (hin 1 (by decide)) dL_law_260 ?_
  refine lcI S hK2 (xs_M G2) trivial hge2 hd.2.1 hd.2.2 hl.1 lw_kw_L_25 (by decide) cM0 rfl (c_X4_at l G2 hJ2 h2) ⟨Nat.le_of_ble_eq_true rfl, Nat.le_of_ble_eq_true rfl⟩ rfl (rest := [.int _]) rfl (Nat.le_of_ble_eq_true rfl) dL_law_261 ⟨Nat.le_of_ble_eq_true rfl, Nat.le_of_ble_eq_true rfl⟩ (fun H1 locs1 hQ hk1 hS1 => ?_)
  replace hd : LwD s G1 G2 VC1 VM1 H1 locs1 := ⟨gW_keep hd.1 hk1 hdis, hQ, hS1⟩
  clear hQ hk1 hS1
  refine lv_icmp_eq (tgt := 1305) hx hb dL_law_264 (by decide) (fun _ => ?_) (fun hc => absurd rfl hc)
  exact kk VC1 VM1 _ _ _ hr1 hd hl
set_option maxRecDepth 100000 in
set_option maxHeartbeats 4000000 in
theorem law_walker {p : Program} {l : Launch} {e : Env} {s : State} {m : MethodId} {below : List Frame} {meth : Method} {c : Code} {b L : Nat} {xs : Nat → Int32} {G1 G2 : Gd} {ks : Ks} {H : Heap} {locs : List Loc} {ls : Array Slot} {VC VM : VV} {x3 : Int32} {Q : State → Prop} {Rel : VV → VV → Prop} (hop : Op2 Rel f_X3_walker f_X4_walker) (C : LwC p s m c b L xs G1 G2 ks) (hrel : Rel VC VM) (hd : LwD s G1 G2 VC VM H locs) (hl : lv_has ls 4 [(0, .ref b), (1, .ref (G1.2.2 24)), (2, .ref (G2.2.2 0)), (3, .int x3)]) (hin : ∀ j : Nat, j < 6 → vp_in (x3 + nI j) L)
    (kk : ∀ (VC VM : VV) (H : Heap) (locs : List Loc) (ls : Array Slot), Rel VC VM → LwD s G1 G2 VC VM H locs → lv_has ls 4 [(0, .ref b), (1, .ref (G1.2.2 24)), (2, .ref (G2.2.2 0)), (3, .int x3)] → W p l e room_1 s m #[Value.ref b] below meth c H locs 48 1111 Q (F0 m 1305 ls [])) : W p l e room_1 s m #[Value.ref b] below meth c H locs 48 1111 Q (F0 m 269 ls []) := by
  obtain ⟨S, hX, hbl, hK1, hK2, hJ1, hJ2, hXs, hge1, hge2, hdis⟩ := C
  obtain ⟨hx, hb, hml, hown, hts⟩ := id S
  have hbA : ¬ lwA s b := Nat.not_le.mpr hbl
  obtain ⟨r, VC1, VM1, h1, h2, hr1⟩ := hop VC VM hrel (xs (x3 + 1).toNatClampNeg) (xs (x3 + 2).toNatClampNeg)
  refine lv_aload_n hx hb dL_law_269 rfl (lv_at hl 1 rfl) ?_
  refine lv_aload_n hx hb dL_law_270 rfl (lv_at hl 0 rfl) ?_
  refine lv_iload_n hx hb dL_law_271 rfl (lv_at hl 3 rfl) ?_
  refine lv_iconst (v := 1) hx hb dL_law_272 (by decide) ?_
  refine lv_iadd hx hb dL_law_273 ?_
  refine va_sld hx hb hX hbl hbA hd.2.2 (hin 1 (by decide)) dL_law_274 ?_
  refine lv_aload_n hx hb dL_law_275 rfl (lv_at hl 0 rfl) ?_
  refine lv_iload_n hx hb dL_law_276 rfl (lv_at hl 3 rfl) ?_
  refine lv_iconst (v := 2) hx hb dL_law_277 (by decide) ?_
  refine lv_iadd hx hb dL_law_278 ?_
  refine va_sld hx hb hX hbl hbA hd.2.2 (hin 2 (by decide)) dL_law_279 ?_
  refine lcI S hK1 (xs_C G1 ks) hXs hge1 hd.1 hd.2.2 hl.1 lw_kw_L_26 (by decide) cC24 rfl (c_X3_walker l G1 ks hJ1 h1) ⟨Nat.le_of_ble_eq_true rfl, Nat.le_of_ble_eq_true rfl⟩ rfl (rest := []) rfl (Nat.le_of_ble_eq_true rfl) dL_law_280 ⟨Nat.le_of_ble_eq_true rfl, Nat.le_of_ble_eq_true rfl⟩ (fun H1 locs1 hQ hk1 hS1 => ?_)
  replace hd : LwD s G1 G2 VC1 VM H1 locs1 := ⟨hQ, gW_keep hd.2.1 hk1 (fun i j hi hj h => hdis j i hj hi h.symm), hS1⟩
  clear hQ hk1 hS1
  refine lv_aload_n hx hb dL_law_283 rfl (lv_at hl 2 rfl) ?_
  refine lv_aload_n hx hb dL_law_284 rfl (lv_at hl 0 rfl) ?_
  refine lv_iload_n hx hb dL_law_285 rfl (lv_at hl 3 rfl) ?_
  refine lv_iconst (v := 1) hx hb dL_law_286 (by decide) ?_
  refine lv_iadd hx hb dL_law_287 ?_
  refine va_sld hx hb hX hbl hbA hd.2.2 (hin 1 (by decide)) dL_law_288 ?_
  refine lv_aload_n hx hb dL_law_289 rfl (lv_at hl 0 rfl) ?_
  refine lv_iload_n hx hb dL_law_290 rfl (lv_at hl 3 rfl) ?_
  refine lv_iconst (v := 2) hx hb dL_law_291 (by decide) ?_
  refine lv_iadd hx hb dL_law_292 ?_
  refine va_sld hx hb hX hbl hbA hd.2.2 (hin 2 (by decide)) dL_law_293 ?_
  refine lcI S hK2 (xs_M G2) trivial hge2 hd.2.1 hd.2.2 hl.1 lw_kw_L_30 (by decide) cM0 rfl (c_X4_walker l G2 hJ2 h2) ⟨Nat.le_of_ble_eq_true rfl, Nat.le_of_ble_eq_true rfl⟩ rfl (rest := [.int _]) rfl (Nat.le_of_ble_eq_true rfl) dL_law_294 ⟨Nat.le_of_ble_eq_true rfl, Nat.le_of_ble_eq_true rfl⟩ (fun H1 locs1 hQ hk1 hS1 => ?_)
  replace hd : LwD s G1 G2 VC1 VM1 H1 locs1 := ⟨gW_keep hd.1 hk1 hdis, hQ, hS1⟩
  clear hQ hk1 hS1
  refine lv_icmp_eq (tgt := 1305) hx hb dL_law_297 (by decide) (fun _ => ?_) (fun hc => absurd rfl hc)
  exact kk VC1 VM1 _ _ _ hr1 hd hl
set_option maxRecDepth 100000 in
set_option maxHeartbeats 4000000 in
theorem law_of {p : Program} {l : Launch} {e : Env} {s : State} {m : MethodId} {below : List Frame} {meth : Method} {c : Code} {b L : Nat} {xs : Nat → Int32} {G1 G2 : Gd} {ks : Ks} {H : Heap} {locs : List Loc} {ls : Array Slot} {VC VM : VV} {x3 : Int32} {Q : State → Prop} {Rel : VV → VV → Prop} (hop : Op2 Rel f_X3_of f_X4_of) (C : LwC p s m c b L xs G1 G2 ks) (hrel : Rel VC VM) (hd : LwD s G1 G2 VC VM H locs) (hl : lv_has ls 4 [(0, .ref b), (1, .ref (G1.2.2 24)), (2, .ref (G2.2.2 0)), (3, .int x3)]) (hin : ∀ j : Nat, j < 6 → vp_in (x3 + nI j) L)
    (kk : ∀ (VC VM : VV) (H : Heap) (locs : List Loc) (ls : Array Slot), Rel VC VM → LwD s G1 G2 VC VM H locs → lv_has ls 4 [(0, .ref b), (1, .ref (G1.2.2 24)), (2, .ref (G2.2.2 0)), (3, .int x3)] → W p l e room_1 s m #[Value.ref b] below meth c H locs 48 1111 Q (F0 m 1305 ls [])) : W p l e room_1 s m #[Value.ref b] below meth c H locs 48 1111 Q (F0 m 302 ls []) := by
  obtain ⟨S, hX, hbl, hK1, hK2, hJ1, hJ2, hXs, hge1, hge2, hdis⟩ := C
  obtain ⟨hx, hb, hml, hown, hts⟩ := id S
  have hbA : ¬ lwA s b := Nat.not_le.mpr hbl
  obtain ⟨r, VC1, VM1, h1, h2, hr1⟩ := hop VC VM hrel (xs (x3 + 1).toNatClampNeg) (xs (x3 + 2).toNatClampNeg)
  refine lv_aload_n hx hb dL_law_302 rfl (lv_at hl 1 rfl) ?_
  refine lv_aload_n hx hb dL_law_303 rfl (lv_at hl 0 rfl) ?_
  refine lv_iload_n hx hb dL_law_304 rfl (lv_at hl 3 rfl) ?_
  refine lv_iconst (v := 1) hx hb dL_law_305 (by decide) ?_
  refine lv_iadd hx hb dL_law_306 ?_
  refine va_sld hx hb hX hbl hbA hd.2.2 (hin 1 (by decide)) dL_law_307 ?_
  refine lv_aload_n hx hb dL_law_308 rfl (lv_at hl 0 rfl) ?_
  refine lv_iload_n hx hb dL_law_309 rfl (lv_at hl 3 rfl) ?_
  refine lv_iconst (v := 2) hx hb dL_law_310 (by decide) ?_
  refine lv_iadd hx hb dL_law_311 ?_
  refine va_sld hx hb hX hbl hbA hd.2.2 (hin 2 (by decide)) dL_law_312 ?_
  refine lcI S hK1 (xs_C G1 ks) hXs hge1 hd.1 hd.2.2 hl.1 lw_kw_L_31 (by decide) cC24 rfl (c_X3_of l G1 ks hJ1 h1) ⟨Nat.le_of_ble_eq_true rfl, Nat.le_of_ble_eq_true rfl⟩ rfl (rest := []) rfl (Nat.le_of_ble_eq_true rfl) dL_law_313 ⟨Nat.le_of_ble_eq_true rfl, Nat.le_of_ble_eq_true rfl⟩ (fun H1 locs1 hQ hk1 hS1 => ?_)
  replace hd : LwD s G1 G2 VC1 VM H1 locs1 := ⟨hQ, gW_keep hd.2.1 hk1 (fun i j hi hj h => hdis j i hj hi h.symm), hS1⟩
  clear hQ hk1 hS1
  refine lv_aload_n hx hb dL_law_316 rfl (lv_at hl 2 rfl) ?_
  refine lv_aload_n hx hb dL_law_317 rfl (lv_at hl 0 rfl) ?_
  refine lv_iload_n hx hb dL_law_318 rfl (lv_at hl 3 rfl) ?_
  refine lv_iconst (v := 1) hx hb dL_law_319 (by decide) ?_
  refine lv_iadd hx hb dL_law_320 ?_
  refine va_sld hx hb hX hbl hbA hd.2.2 (hin 1 (by decide)) dL_law_321 ?_
  refine lv_aload_n hx hb dL_law_322 rfl (lv_at hl 0 rfl) ?_
  refine lv_iload_n hx hb dL_law_323 rfl (lv_at hl 3 rfl) ?_
  refine lv_iconst (v := 2) hx hb dL_law_324 (by decide) ?_
  refine lv_iadd hx hb dL_law_325 ?_
  refine va_sld hx hb hX hbl hbA hd.2.2 (hin 2 (by decide)) dL_law_326 ?_
  refine lcI S hK2 (xs_M G2) trivial hge2 hd.2.1 hd.2.2 hl.1 lw_kw_L_34 (by decide) cM0 rfl (c_X4_of l G2 hJ2 h2) ⟨Nat.le_of_ble_eq_true rfl, Nat.le_of_ble_eq_true rfl⟩ rfl (rest := [.int _]) rfl (Nat.le_of_ble_eq_true rfl) dL_law_327 ⟨Nat.le_of_ble_eq_true rfl, Nat.le_of_ble_eq_true rfl⟩ (fun H1 locs1 hQ hk1 hS1 => ?_)
  replace hd : LwD s G1 G2 VC1 VM1 H1 locs1 := ⟨gW_keep hd.1 hk1 hdis, hQ, hS1⟩
  clear hQ hk1 hS1
  refine lv_icmp_eq (tgt := 1305) hx hb dL_law_330 (by decide) (fun _ => ?_) (fun hc => absurd rfl hc)
  exact kk VC1 VM1 _ _ _ hr1 hd hl
set_option maxRecDepth 100000 in
set_option maxHeartbeats 4000000 in
theorem law_set {p : Program} {l : Launch} {e : Env} {s : State} {m : MethodId} {below : List Frame} {meth : Method} {c : Code} {b L : Nat} {xs : Nat → Int32} {G1 G2 : Gd} {ks : Ks} {H : Heap} {locs : List Loc} {ls : Array Slot} {VC VM : VV} {x3 : Int32} {Q : State → Prop} {Rel : VV → VV → Prop} (hop : Op3 Rel f_X3_set f_X4_set) (C : LwC p s m c b L xs G1 G2 ks) (hrel : Rel VC VM) (hd : LwD s G1 G2 VC VM H locs) (hl : lv_has ls 4 [(0, .ref b), (1, .ref (G1.2.2 24)), (2, .ref (G2.2.2 0)), (3, .int x3)]) (hin : ∀ j : Nat, j < 6 → vp_in (x3 + nI j) L)
    (kk : ∀ (VC VM : VV) (H : Heap) (locs : List Loc) (ls : Array Slot), Rel VC VM → LwD s G1 G2 VC VM H locs → lv_has ls 4 [(0, .ref b), (1, .ref (G1.2.2 24)), (2, .ref (G2.2.2 0)), (3, .int x3)] → W p l e room_1 s m #[Value.ref b] below meth c H locs 48 1111 Q (F0 m 1305 ls [])) : W p l e room_1 s m #[Value.ref b] below meth c H locs 48 1111 Q (F0 m 335 ls []) := by
  obtain ⟨S, hX, hbl, hK1, hK2, hJ1, hJ2, hXs, hge1, hge2, hdis⟩ := C
  obtain ⟨hx, hb, hml, hown, hts⟩ := id S
  have hbA : ¬ lwA s b := Nat.not_le.mpr hbl
  obtain ⟨r, VC1, VM1, h1, h2, hr1⟩ := hop VC VM hrel (xs (x3 + 1).toNatClampNeg) (xs (x3 + 2).toNatClampNeg) (xs (x3 + 3).toNatClampNeg)
  refine lv_aload_n hx hb dL_law_335 rfl (lv_at hl 1 rfl) ?_
  refine lv_aload_n hx hb dL_law_336 rfl (lv_at hl 0 rfl) ?_
  refine lv_iload_n hx hb dL_law_337 rfl (lv_at hl 3 rfl) ?_
  refine lv_iconst (v := 1) hx hb dL_law_338 (by decide) ?_
  refine lv_iadd hx hb dL_law_339 ?_
  refine va_sld hx hb hX hbl hbA hd.2.2 (hin 1 (by decide)) dL_law_340 ?_
  refine lv_aload_n hx hb dL_law_341 rfl (lv_at hl 0 rfl) ?_
  refine lv_iload_n hx hb dL_law_342 rfl (lv_at hl 3 rfl) ?_
  refine lv_iconst (v := 2) hx hb dL_law_343 (by decide) ?_
  refine lv_iadd hx hb dL_law_344 ?_
  refine va_sld hx hb hX hbl hbA hd.2.2 (hin 2 (by decide)) dL_law_345 ?_
  refine lv_aload_n hx hb dL_law_346 rfl (lv_at hl 0 rfl) ?_
  refine lv_iload_n hx hb dL_law_347 rfl (lv_at hl 3 rfl) ?_
  refine lv_iconst (v := 3) hx hb dL_law_348 (by decide) ?_
  refine lv_iadd hx hb dL_law_349 ?_
  refine va_sld hx hb hX hbl hbA hd.2.2 (hin 3 (by decide)) dL_law_350 ?_
  refine lcI S hK1 (xs_C G1 ks) hXs hge1 hd.1 hd.2.2 hl.1 lw_kw_L_35 (by decide) cC24 rfl (c_X3_set l G1 ks hJ1 h1) ⟨Nat.le_of_ble_eq_true rfl, Nat.le_of_ble_eq_true rfl⟩ rfl (rest := []) rfl (Nat.le_of_ble_eq_true rfl) dL_law_351 ⟨Nat.le_of_ble_eq_true rfl, Nat.le_of_ble_eq_true rfl⟩ (fun H1 locs1 hQ hk1 hS1 => ?_)
  replace hd : LwD s G1 G2 VC1 VM H1 locs1 := ⟨hQ, gW_keep hd.2.1 hk1 (fun i j hi hj h => hdis j i hj hi h.symm), hS1⟩
  clear hQ hk1 hS1
  refine lv_aload_n hx hb dL_law_354 rfl (lv_at hl 2 rfl) ?_
  refine lv_aload_n hx hb dL_law_355 rfl (lv_at hl 0 rfl) ?_
  refine lv_iload_n hx hb dL_law_356 rfl (lv_at hl 3 rfl) ?_
  refine lv_iconst (v := 1) hx hb dL_law_357 (by decide) ?_
  refine lv_iadd hx hb dL_law_358 ?_
  refine va_sld hx hb hX hbl hbA hd.2.2 (hin 1 (by decide)) dL_law_359 ?_
  refine lv_aload_n hx hb dL_law_360 rfl (lv_at hl 0 rfl) ?_
  refine lv_iload_n hx hb dL_law_361 rfl (lv_at hl 3 rfl) ?_
  refine lv_iconst (v := 2) hx hb dL_law_362 (by decide) ?_
  refine lv_iadd hx hb dL_law_363 ?_
  refine va_sld hx hb hX hbl hbA hd.2.2 (hin 2 (by decide)) dL_law_364 ?_
  refine lv_aload_n hx hb dL_law_365 rfl (lv_at hl 0 rfl) ?_
  refine lv_iload_n hx hb dL_law_366 rfl (lv_at hl 3 rfl) ?_
  refine lv_iconst (v := 3) hx hb dL_law_367 (by decide) ?_
  refine lv_iadd hx hb dL_law_368 ?_
  refine va_sld hx hb hX hbl hbA hd.2.2 (hin 3 (by decide)) dL_law_369 ?_
  refine lcI S hK2 (xs_M G2) trivial hge2 hd.2.1 hd.2.2 hl.1 lw_kw_L_39 (by decide) cM0 rfl (c_X4_set l G2 hJ2 h2) ⟨Nat.le_of_ble_eq_true rfl, Nat.le_of_ble_eq_true rfl⟩ rfl (rest := [.int _]) rfl (Nat.le_of_ble_eq_true rfl) dL_law_370 ⟨Nat.le_of_ble_eq_true rfl, Nat.le_of_ble_eq_true rfl⟩ (fun H1 locs1 hQ hk1 hS1 => ?_)
  replace hd : LwD s G1 G2 VC1 VM1 H1 locs1 := ⟨gW_keep hd.1 hk1 hdis, hQ, hS1⟩
  clear hQ hk1 hS1
  refine lv_icmp_eq (tgt := 1305) hx hb dL_law_373 (by decide) (fun _ => ?_) (fun hc => absurd rfl hc)
  exact kk VC1 VM1 _ _ _ hr1 hd hl
set_option maxRecDepth 100000 in
set_option maxHeartbeats 4000000 in
theorem law_turn {p : Program} {l : Launch} {e : Env} {s : State} {m : MethodId} {below : List Frame} {meth : Method} {c : Code} {b L : Nat} {xs : Nat → Int32} {G1 G2 : Gd} {ks : Ks} {H : Heap} {locs : List Loc} {ls : Array Slot} {VC VM : VV} {x3 : Int32} {Q : State → Prop} {Rel : VV → VV → Prop} (hop : Op2 Rel f_X3_turn f_X4_turn) (C : LwC p s m c b L xs G1 G2 ks) (hrel : Rel VC VM) (hd : LwD s G1 G2 VC VM H locs) (hl : lv_has ls 4 [(0, .ref b), (1, .ref (G1.2.2 24)), (2, .ref (G2.2.2 0)), (3, .int x3)]) (hin : ∀ j : Nat, j < 6 → vp_in (x3 + nI j) L)
    (kk : ∀ (VC VM : VV) (H : Heap) (locs : List Loc) (ls : Array Slot), Rel VC VM → LwD s G1 G2 VC VM H locs → lv_has ls 4 [(0, .ref b), (1, .ref (G1.2.2 24)), (2, .ref (G2.2.2 0)), (3, .int x3)] → W p l e room_1 s m #[Value.ref b] below meth c H locs 48 1111 Q (F0 m 1305 ls [])) : W p l e room_1 s m #[Value.ref b] below meth c H locs 48 1111 Q (F0 m 378 ls []) := by
  obtain ⟨S, hX, hbl, hK1, hK2, hJ1, hJ2, hXs, hge1, hge2, hdis⟩ := C
  obtain ⟨hx, hb, hml, hown, hts⟩ := id S
  have hbA : ¬ lwA s b := Nat.not_le.mpr hbl
  obtain ⟨r, VC1, VM1, h1, h2, hr1⟩ := hop VC VM hrel (xs (x3 + 1).toNatClampNeg) (xs (x3 + 2).toNatClampNeg)
  refine lv_aload_n hx hb dL_law_378 rfl (lv_at hl 1 rfl) ?_
  refine lv_aload_n hx hb dL_law_379 rfl (lv_at hl 0 rfl) ?_
  refine lv_iload_n hx hb dL_law_380 rfl (lv_at hl 3 rfl) ?_
  refine lv_iconst (v := 1) hx hb dL_law_381 (by decide) ?_
  refine lv_iadd hx hb dL_law_382 ?_
  refine va_sld hx hb hX hbl hbA hd.2.2 (hin 1 (by decide)) dL_law_383 ?_
  refine lv_aload_n hx hb dL_law_384 rfl (lv_at hl 0 rfl) ?_
  refine lv_iload_n hx hb dL_law_385 rfl (lv_at hl 3 rfl) ?_
  refine lv_iconst (v := 2) hx hb dL_law_386 (by decide) ?_
  refine lv_iadd hx hb dL_law_387 ?_
  refine va_sld hx hb hX hbl hbA hd.2.2 (hin 2 (by decide)) dL_law_388 ?_
  refine lcI S hK1 (xs_C G1 ks) hXs hge1 hd.1 hd.2.2 hl.1 lw_kw_L_40 (by decide) cC24 rfl (c_X3_turn l G1 ks hJ1 h1) ⟨Nat.le_of_ble_eq_true rfl, Nat.le_of_ble_eq_true rfl⟩ rfl (rest := []) rfl (Nat.le_of_ble_eq_true rfl) dL_law_389 ⟨Nat.le_of_ble_eq_true rfl, Nat.le_of_ble_eq_true rfl⟩ (fun H1 locs1 hQ hk1 hS1 => ?_)
  replace hd : LwD s G1 G2 VC1 VM H1 locs1 := ⟨hQ, gW_keep hd.2.1 hk1 (fun i j hi hj h => hdis j i hj hi h.symm), hS1⟩
  clear hQ hk1 hS1
  refine lv_aload_n hx hb dL_law_392 rfl (lv_at hl 2 rfl) ?_
  refine lv_aload_n hx hb dL_law_393 rfl (lv_at hl 0 rfl) ?_
  refine lv_iload_n hx hb dL_law_394 rfl (lv_at hl 3 rfl) ?_
  refine lv_iconst (v := 1) hx hb dL_law_395 (by decide) ?_
  refine lv_iadd hx hb dL_law_396 ?_
  refine va_sld hx hb hX hbl hbA hd.2.2 (hin 1 (by decide)) dL_law_397 ?_
  refine lv_aload_n hx hb dL_law_398 rfl (lv_at hl 0 rfl) ?_
  refine lv_iload_n hx hb dL_law_399 rfl (lv_at hl 3 rfl) ?_
  refine lv_iconst (v := 2) hx hb dL_law_400 (by decide) ?_
  refine lv_iadd hx hb dL_law_401 ?_
  refine va_sld hx hb hX hbl hbA hd.2.2 (hin 2 (by decide)) dL_law_402 ?_
  refine lcI S hK2 (xs_M G2) trivial hge2 hd.2.1 hd.2.2 hl.1 lw_kw_L_43 (by decide) cM0 rfl (c_X4_turn l G2 hJ2 h2) ⟨Nat.le_of_ble_eq_true rfl, Nat.le_of_ble_eq_true rfl⟩ rfl (rest := [.int _]) rfl (Nat.le_of_ble_eq_true rfl) dL_law_403 ⟨Nat.le_of_ble_eq_true rfl, Nat.le_of_ble_eq_true rfl⟩ (fun H1 locs1 hQ hk1 hS1 => ?_)
  replace hd : LwD s G1 G2 VC1 VM1 H1 locs1 := ⟨gW_keep hd.1 hk1 hdis, hQ, hS1⟩
  clear hQ hk1 hS1
  refine lv_icmp_eq (tgt := 1305) hx hb dL_law_406 (by decide) (fun _ => ?_) (fun hc => absurd rfl hc)
  exact kk VC1 VM1 _ _ _ hr1 hd hl
set_option maxRecDepth 100000 in
set_option maxHeartbeats 4000000 in
theorem law_as {p : Program} {l : Launch} {e : Env} {s : State} {m : MethodId} {below : List Frame} {meth : Method} {c : Code} {b L : Nat} {xs : Nat → Int32} {G1 G2 : Gd} {ks : Ks} {H : Heap} {locs : List Loc} {ls : Array Slot} {VC VM : VV} {x3 : Int32} {Q : State → Prop} {Rel : VV → VV → Prop} (hop : Op2 Rel f_X3_as f_X4_as) (C : LwC p s m c b L xs G1 G2 ks) (hrel : Rel VC VM) (hd : LwD s G1 G2 VC VM H locs) (hl : lv_has ls 4 [(0, .ref b), (1, .ref (G1.2.2 24)), (2, .ref (G2.2.2 0)), (3, .int x3)]) (hin : ∀ j : Nat, j < 6 → vp_in (x3 + nI j) L)
    (kk : ∀ (VC VM : VV) (H : Heap) (locs : List Loc) (ls : Array Slot), Rel VC VM → LwD s G1 G2 VC VM H locs → lv_has ls 4 [(0, .ref b), (1, .ref (G1.2.2 24)), (2, .ref (G2.2.2 0)), (3, .int x3)] → W p l e room_1 s m #[Value.ref b] below meth c H locs 48 1111 Q (F0 m 1305 ls [])) : W p l e room_1 s m #[Value.ref b] below meth c H locs 48 1111 Q (F0 m 411 ls []) := by
  obtain ⟨S, hX, hbl, hK1, hK2, hJ1, hJ2, hXs, hge1, hge2, hdis⟩ := C
  obtain ⟨hx, hb, hml, hown, hts⟩ := id S
  have hbA : ¬ lwA s b := Nat.not_le.mpr hbl
  obtain ⟨r, VC1, VM1, h1, h2, hr1⟩ := hop VC VM hrel (xs (x3 + 1).toNatClampNeg) (xs (x3 + 2).toNatClampNeg)
  refine lv_aload_n hx hb dL_law_411 rfl (lv_at hl 1 rfl) ?_
  refine lv_aload_n hx hb dL_law_412 rfl (lv_at hl 0 rfl) ?_
  refine lv_iload_n hx hb dL_law_413 rfl (lv_at hl 3 rfl) ?_
  refine lv_iconst (v := 1) hx hb dL_law_414 (by decide) ?_
  refine lv_iadd hx hb dL_law_415 ?_
  refine va_sld hx hb hX hbl hbA hd.2.2 (hin 1 (by decide)) dL_law_416 ?_
  refine lv_aload_n hx hb dL_law_417 rfl (lv_at hl 0 rfl) ?_
  refine lv_iload_n hx hb dL_law_418 rfl (lv_at hl 3 rfl) ?_
  refine lv_iconst (v := 2) hx hb dL_law_419 (by decide) ?_
  refine lv_iadd hx hb dL_law_420 ?_
  refine va_sld hx hb hX hbl hbA hd.2.2 (hin 2 (by decide)) dL_law_421 ?_
  refine lcI S hK1 (xs_C G1 ks) hXs hge1 hd.1 hd.2.2 hl.1 lw_kw_L_44 (by decide) cC24 rfl (c_X3_as l G1 ks hJ1 h1) ⟨Nat.le_of_ble_eq_true rfl, Nat.le_of_ble_eq_true rfl⟩ rfl (rest := []) rfl (Nat.le_of_ble_eq_true rfl) dL_law_422 ⟨Nat.le_of_ble_eq_true rfl, Nat.le_of_ble_eq_true rfl⟩ (fun H1 locs1 hQ hk1 hS1 => ?_)
  replace hd : LwD s G1 G2 VC1 VM H1 locs1 := ⟨hQ, gW_keep hd.2.1 hk1 (fun i j hi hj h => hdis j i hj hi h.symm), hS1⟩
  clear hQ hk1 hS1
  refine lv_aload_n hx hb dL_law_425 rfl (lv_at hl 2 rfl) ?_
  refine lv_aload_n hx hb dL_law_426 rfl (lv_at hl 0 rfl) ?_
  refine lv_iload_n hx hb dL_law_427 rfl (lv_at hl 3 rfl) ?_
  refine lv_iconst (v := 1) hx hb dL_law_428 (by decide) ?_
  refine lv_iadd hx hb dL_law_429 ?_
  refine va_sld hx hb hX hbl hbA hd.2.2 (hin 1 (by decide)) dL_law_430 ?_
  refine lv_aload_n hx hb dL_law_431 rfl (lv_at hl 0 rfl) ?_
  refine lv_iload_n hx hb dL_law_432 rfl (lv_at hl 3 rfl) ?_
  refine lv_iconst (v := 2) hx hb dL_law_433 (by decide) ?_
  refine lv_iadd hx hb dL_law_434 ?_
  refine va_sld hx hb hX hbl hbA hd.2.2 (hin 2 (by decide)) dL_law_435 ?_
  refine lcI S hK2 (xs_M G2) trivial hge2 hd.2.1 hd.2.2 hl.1 lw_kw_L_47 (by decide) cM0 rfl (c_X4_as l G2 hJ2 h2) ⟨Nat.le_of_ble_eq_true rfl, Nat.le_of_ble_eq_true rfl⟩ rfl (rest := [.int _]) rfl (Nat.le_of_ble_eq_true rfl) dL_law_436 ⟨Nat.le_of_ble_eq_true rfl, Nat.le_of_ble_eq_true rfl⟩ (fun H1 locs1 hQ hk1 hS1 => ?_)
  replace hd : LwD s G1 G2 VC1 VM1 H1 locs1 := ⟨gW_keep hd.1 hk1 hdis, hQ, hS1⟩
  clear hQ hk1 hS1
  refine lv_icmp_eq (tgt := 1305) hx hb dL_law_439 (by decide) (fun _ => ?_) (fun hc => absurd rfl hc)
  exact kk VC1 VM1 _ _ _ hr1 hd hl
set_option maxRecDepth 100000 in
set_option maxHeartbeats 4000000 in
theorem law_free {p : Program} {l : Launch} {e : Env} {s : State} {m : MethodId} {below : List Frame} {meth : Method} {c : Code} {b L : Nat} {xs : Nat → Int32} {G1 G2 : Gd} {ks : Ks} {H : Heap} {locs : List Loc} {ls : Array Slot} {VC VM : VV} {x3 : Int32} {Q : State → Prop} {Rel : VV → VV → Prop} (hop : Op1 Rel f_X3_free f_X4_free) (C : LwC p s m c b L xs G1 G2 ks) (hrel : Rel VC VM) (hd : LwD s G1 G2 VC VM H locs) (hl : lv_has ls 4 [(0, .ref b), (1, .ref (G1.2.2 24)), (2, .ref (G2.2.2 0)), (3, .int x3)]) (hin : ∀ j : Nat, j < 6 → vp_in (x3 + nI j) L)
    (kk : ∀ (VC VM : VV) (H : Heap) (locs : List Loc) (ls : Array Slot), Rel VC VM → LwD s G1 G2 VC VM H locs → lv_has ls 4 [(0, .ref b), (1, .ref (G1.2.2 24)), (2, .ref (G2.2.2 0)), (3, .int x3)] → W p l e room_1 s m #[Value.ref b] below meth c H locs 48 1111 Q (F0 m 1305 ls [])) : W p l e room_1 s m #[Value.ref b] below meth c H locs 48 1111 Q (F0 m 444 ls []) := by
  obtain ⟨S, hX, hbl, hK1, hK2, hJ1, hJ2, hXs, hge1, hge2, hdis⟩ := C
  obtain ⟨hx, hb, hml, hown, hts⟩ := id S
  have hbA : ¬ lwA s b := Nat.not_le.mpr hbl
  obtain ⟨r, VC1, VM1, h1, h2, hr1⟩ := hop VC VM hrel (xs (x3 + 1).toNatClampNeg)
  refine lv_aload_n hx hb dL_law_444 rfl (lv_at hl 1 rfl) ?_
  refine lv_aload_n hx hb dL_law_445 rfl (lv_at hl 0 rfl) ?_
  refine lv_iload_n hx hb dL_law_446 rfl (lv_at hl 3 rfl) ?_
  refine lv_iconst (v := 1) hx hb dL_law_447 (by decide) ?_
  refine lv_iadd hx hb dL_law_448 ?_
  refine va_sld hx hb hX hbl hbA hd.2.2 (hin 1 (by decide)) dL_law_449 ?_
  refine lcI S hK1 (xs_C G1 ks) hXs hge1 hd.1 hd.2.2 hl.1 lw_kw_L_48 (by decide) cC24 rfl (c_X3_free l G1 ks hJ1 h1) ⟨Nat.le_of_ble_eq_true rfl, Nat.le_of_ble_eq_true rfl⟩ rfl (rest := []) rfl (Nat.le_of_ble_eq_true rfl) dL_law_450 ⟨Nat.le_of_ble_eq_true rfl, Nat.le_of_ble_eq_true rfl⟩ (fun H1 locs1 hQ hk1 hS1 => ?_)
  replace hd : LwD s G1 G2 VC1 VM H1 locs1 := ⟨hQ, gW_keep hd.2.1 hk1 (fun i j hi hj h => hdis j i hj hi h.symm), hS1⟩
  clear hQ hk1 hS1
  refine lv_aload_n hx hb dL_law_453 rfl (lv_at hl 2 rfl) ?_
  refine lv_aload_n hx hb dL_law_454 rfl (lv_at hl 0 rfl) ?_
  refine lv_iload_n hx hb dL_law_455 rfl (lv_at hl 3 rfl) ?_
  refine lv_iconst (v := 1) hx hb dL_law_456 (by decide) ?_
  refine lv_iadd hx hb dL_law_457 ?_
  refine va_sld hx hb hX hbl hbA hd.2.2 (hin 1 (by decide)) dL_law_458 ?_
  refine lcI S hK2 (xs_M G2) trivial hge2 hd.2.1 hd.2.2 hl.1 lw_kw_L_51 (by decide) cM0 rfl (c_X4_free l G2 hJ2 h2) ⟨Nat.le_of_ble_eq_true rfl, Nat.le_of_ble_eq_true rfl⟩ rfl (rest := [.int _]) rfl (Nat.le_of_ble_eq_true rfl) dL_law_459 ⟨Nat.le_of_ble_eq_true rfl, Nat.le_of_ble_eq_true rfl⟩ (fun H1 locs1 hQ hk1 hS1 => ?_)
  replace hd : LwD s G1 G2 VC1 VM1 H1 locs1 := ⟨gW_keep hd.1 hk1 hdis, hQ, hS1⟩
  clear hQ hk1 hS1
  refine lv_icmp_eq (tgt := 1305) hx hb dL_law_462 (by decide) (fun _ => ?_) (fun hc => absurd rfl hc)
  exact kk VC1 VM1 _ _ _ hr1 hd hl
set_option maxRecDepth 100000 in
set_option maxHeartbeats 4000000 in
theorem law_keep {p : Program} {l : Launch} {e : Env} {s : State} {m : MethodId} {below : List Frame} {meth : Method} {c : Code} {b L : Nat} {xs : Nat → Int32} {G1 G2 : Gd} {ks : Ks} {H : Heap} {locs : List Loc} {ls : Array Slot} {VC VM : VV} {x3 : Int32} {Q : State → Prop} {Rel : VV → VV → Prop} (hop : Op2 Rel f_X3_keep f_X4_keep) (C : LwC p s m c b L xs G1 G2 ks) (hrel : Rel VC VM) (hd : LwD s G1 G2 VC VM H locs) (hl : lv_has ls 4 [(0, .ref b), (1, .ref (G1.2.2 24)), (2, .ref (G2.2.2 0)), (3, .int x3)]) (hin : ∀ j : Nat, j < 6 → vp_in (x3 + nI j) L)
    (kk : ∀ (VC VM : VV) (H : Heap) (locs : List Loc) (ls : Array Slot), Rel VC VM → LwD s G1 G2 VC VM H locs → lv_has ls 4 [(0, .ref b), (1, .ref (G1.2.2 24)), (2, .ref (G2.2.2 0)), (3, .int x3)] → W p l e room_1 s m #[Value.ref b] below meth c H locs 48 1111 Q (F0 m 1305 ls [])) : W p l e room_1 s m #[Value.ref b] below meth c H locs 48 1111 Q (F0 m 467 ls []) := by
  obtain ⟨S, hX, hbl, hK1, hK2, hJ1, hJ2, hXs, hge1, hge2, hdis⟩ := C
  obtain ⟨hx, hb, hml, hown, hts⟩ := id S
  have hbA : ¬ lwA s b := Nat.not_le.mpr hbl
  obtain ⟨r, VC1, VM1, h1, h2, hr1⟩ := hop VC VM hrel (xs (x3 + 1).toNatClampNeg) (xs (x3 + 2).toNatClampNeg)
  refine lv_aload_n hx hb dL_law_467 rfl (lv_at hl 1 rfl) ?_
  refine lv_aload_n hx hb dL_law_468 rfl (lv_at hl 0 rfl) ?_
  refine lv_iload_n hx hb dL_law_469 rfl (lv_at hl 3 rfl) ?_
  refine lv_iconst (v := 1) hx hb dL_law_470 (by decide) ?_
  refine lv_iadd hx hb dL_law_471 ?_
  refine va_sld hx hb hX hbl hbA hd.2.2 (hin 1 (by decide)) dL_law_472 ?_
  refine lv_aload_n hx hb dL_law_473 rfl (lv_at hl 0 rfl) ?_
  refine lv_iload_n hx hb dL_law_474 rfl (lv_at hl 3 rfl) ?_
  refine lv_iconst (v := 2) hx hb dL_law_475 (by decide) ?_
  refine lv_iadd hx hb dL_law_476 ?_
  refine va_sld hx hb hX hbl hbA hd.2.2 (hin 2 (by decide)) dL_law_477 ?_
  refine lcI S hK1 (xs_C G1 ks) hXs hge1 hd.1 hd.2.2 hl.1 lw_kw_L_52 (by decide) cC24 rfl (c_X3_keep l G1 ks hJ1 h1) ⟨Nat.le_of_ble_eq_true rfl, Nat.le_of_ble_eq_true rfl⟩ rfl (rest := []) rfl (Nat.le_of_ble_eq_true rfl) dL_law_478 ⟨Nat.le_of_ble_eq_true rfl, Nat.le_of_ble_eq_true rfl⟩ (fun H1 locs1 hQ hk1 hS1 => ?_)
  replace hd : LwD s G1 G2 VC1 VM H1 locs1 := ⟨hQ, gW_keep hd.2.1 hk1 (fun i j hi hj h => hdis j i hj hi h.symm), hS1⟩
  clear hQ hk1 hS1
  refine lv_aload_n hx hb dL_law_481 rfl (lv_at hl 2 rfl) ?_
  refine lv_aload_n hx hb dL_law_482 rfl (lv_at hl 0 rfl) ?_
  refine lv_iload_n hx hb dL_law_483 rfl (lv_at hl 3 rfl) ?_
  refine lv_iconst (v := 1) hx hb dL_law_484 (by decide) ?_
  refine lv_iadd hx hb dL_law_485 ?_
  refine va_sld hx hb hX hbl hbA hd.2.2 (hin 1 (by decide)) dL_law_486 ?_
  refine lv_aload_n hx hb dL_law_487 rfl (lv_at hl 0 rfl) ?_
  refine lv_iload_n hx hb dL_law_488 rfl (lv_at hl 3 rfl) ?_
  refine lv_iconst (v := 2) hx hb dL_law_489 (by decide) ?_
  refine lv_iadd hx hb dL_law_490 ?_
  refine va_sld hx hb hX hbl hbA hd.2.2 (hin 2 (by decide)) dL_law_491 ?_
  refine lcI S hK2 (xs_M G2) trivial hge2 hd.2.1 hd.2.2 hl.1 lw_kw_L_55 (by decide) cM0 rfl (c_X4_keep l G2 hJ2 h2) ⟨Nat.le_of_ble_eq_true rfl, Nat.le_of_ble_eq_true rfl⟩ rfl (rest := [.int _]) rfl (Nat.le_of_ble_eq_true rfl) dL_law_492 ⟨Nat.le_of_ble_eq_true rfl, Nat.le_of_ble_eq_true rfl⟩ (fun H1 locs1 hQ hk1 hS1 => ?_)
  replace hd : LwD s G1 G2 VC1 VM1 H1 locs1 := ⟨gW_keep hd.1 hk1 hdis, hQ, hS1⟩
  clear hQ hk1 hS1
  refine lv_icmp_eq (tgt := 1305) hx hb dL_law_495 (by decide) (fun _ => ?_) (fun hc => absurd rfl hc)
  exact kk VC1 VM1 _ _ _ hr1 hd hl
set_option maxRecDepth 100000 in
set_option maxHeartbeats 4000000 in
theorem law_hours {p : Program} {l : Launch} {e : Env} {s : State} {m : MethodId} {below : List Frame} {meth : Method} {c : Code} {b L : Nat} {xs : Nat → Int32} {G1 G2 : Gd} {ks : Ks} {H : Heap} {locs : List Loc} {ls : Array Slot} {VC VM : VV} {x3 : Int32} {Q : State → Prop} {Rel : VV → VV → Prop} (hop : Op1 Rel f_X3_hours f_X4_hours) (C : LwC p s m c b L xs G1 G2 ks) (hrel : Rel VC VM) (hd : LwD s G1 G2 VC VM H locs) (hl : lv_has ls 4 [(0, .ref b), (1, .ref (G1.2.2 24)), (2, .ref (G2.2.2 0)), (3, .int x3)]) (hin : ∀ j : Nat, j < 6 → vp_in (x3 + nI j) L)
    (kk : ∀ (VC VM : VV) (H : Heap) (locs : List Loc) (ls : Array Slot), Rel VC VM → LwD s G1 G2 VC VM H locs → lv_has ls 4 [(0, .ref b), (1, .ref (G1.2.2 24)), (2, .ref (G2.2.2 0)), (3, .int x3)] → W p l e room_1 s m #[Value.ref b] below meth c H locs 48 1111 Q (F0 m 1305 ls [])) : W p l e room_1 s m #[Value.ref b] below meth c H locs 48 1111 Q (F0 m 500 ls []) := by
  obtain ⟨S, hX, hbl, hK1, hK2, hJ1, hJ2, hXs, hge1, hge2, hdis⟩ := C
  obtain ⟨hx, hb, hml, hown, hts⟩ := id S
  have hbA : ¬ lwA s b := Nat.not_le.mpr hbl
  obtain ⟨r, VC1, VM1, h1, h2, hr1⟩ := hop VC VM hrel (xs (x3 + 1).toNatClampNeg)
  refine lv_aload_n hx hb dL_law_500 rfl (lv_at hl 1 rfl) ?_
  refine lv_aload_n hx hb dL_law_501 rfl (lv_at hl 0 rfl) ?_
  refine lv_iload_n hx hb dL_law_502 rfl (lv_at hl 3 rfl) ?_
  refine lv_iconst (v := 1) hx hb dL_law_503 (by decide) ?_
  refine lv_iadd hx hb dL_law_504 ?_
  refine va_sld hx hb hX hbl hbA hd.2.2 (hin 1 (by decide)) dL_law_505 ?_
  refine lcI S hK1 (xs_C G1 ks) hXs hge1 hd.1 hd.2.2 hl.1 lw_kw_L_56 (by decide) cC24 rfl (c_X3_hours l G1 ks hJ1 h1) ⟨Nat.le_of_ble_eq_true rfl, Nat.le_of_ble_eq_true rfl⟩ rfl (rest := []) rfl (Nat.le_of_ble_eq_true rfl) dL_law_506 ⟨Nat.le_of_ble_eq_true rfl, Nat.le_of_ble_eq_true rfl⟩ (fun H1 locs1 hQ hk1 hS1 => ?_)
  replace hd : LwD s G1 G2 VC1 VM H1 locs1 := ⟨hQ, gW_keep hd.2.1 hk1 (fun i j hi hj h => hdis j i hj hi h.symm), hS1⟩
  clear hQ hk1 hS1
  refine lv_aload_n hx hb dL_law_509 rfl (lv_at hl 2 rfl) ?_
  refine lv_aload_n hx hb dL_law_510 rfl (lv_at hl 0 rfl) ?_
  refine lv_iload_n hx hb dL_law_511 rfl (lv_at hl 3 rfl) ?_
  refine lv_iconst (v := 1) hx hb dL_law_512 (by decide) ?_
  refine lv_iadd hx hb dL_law_513 ?_
  refine va_sld hx hb hX hbl hbA hd.2.2 (hin 1 (by decide)) dL_law_514 ?_
  refine lcI S hK2 (xs_M G2) trivial hge2 hd.2.1 hd.2.2 hl.1 lw_kw_L_59 (by decide) cM0 rfl (c_X4_hours l G2 hJ2 h2) ⟨Nat.le_of_ble_eq_true rfl, Nat.le_of_ble_eq_true rfl⟩ rfl (rest := [.int _]) rfl (Nat.le_of_ble_eq_true rfl) dL_law_515 ⟨Nat.le_of_ble_eq_true rfl, Nat.le_of_ble_eq_true rfl⟩ (fun H1 locs1 hQ hk1 hS1 => ?_)
  replace hd : LwD s G1 G2 VC1 VM1 H1 locs1 := ⟨gW_keep hd.1 hk1 hdis, hQ, hS1⟩
  clear hQ hk1 hS1
  refine lv_icmp_eq (tgt := 1305) hx hb dL_law_518 (by decide) (fun _ => ?_) (fun hc => absurd rfl hc)
  exact kk VC1 VM1 _ _ _ hr1 hd hl
set_option maxRecDepth 100000 in
set_option maxHeartbeats 4000000 in
theorem law_now {p : Program} {l : Launch} {e : Env} {s : State} {m : MethodId} {below : List Frame} {meth : Method} {c : Code} {b L : Nat} {xs : Nat → Int32} {G1 G2 : Gd} {ks : Ks} {H : Heap} {locs : List Loc} {ls : Array Slot} {VC VM : VV} {x3 : Int32} {Q : State → Prop} {Rel : VV → VV → Prop} (hop : Op1 Rel f_X3_now f_X4_now) (C : LwC p s m c b L xs G1 G2 ks) (hrel : Rel VC VM) (hd : LwD s G1 G2 VC VM H locs) (hl : lv_has ls 4 [(0, .ref b), (1, .ref (G1.2.2 24)), (2, .ref (G2.2.2 0)), (3, .int x3)]) (hin : ∀ j : Nat, j < 6 → vp_in (x3 + nI j) L)
    (kk : ∀ (VC VM : VV) (H : Heap) (locs : List Loc) (ls : Array Slot), Rel VC VM → LwD s G1 G2 VC VM H locs → lv_has ls 4 [(0, .ref b), (1, .ref (G1.2.2 24)), (2, .ref (G2.2.2 0)), (3, .int x3)] → W p l e room_1 s m #[Value.ref b] below meth c H locs 48 1111 Q (F0 m 1305 ls [])) : W p l e room_1 s m #[Value.ref b] below meth c H locs 48 1111 Q (F0 m 523 ls []) := by
  obtain ⟨S, hX, hbl, hK1, hK2, hJ1, hJ2, hXs, hge1, hge2, hdis⟩ := C
  obtain ⟨hx, hb, hml, hown, hts⟩ := id S
  have hbA : ¬ lwA s b := Nat.not_le.mpr hbl
  obtain ⟨r, VC1, VM1, h1, h2, hr1⟩ := hop VC VM hrel (xs (x3 + 1).toNatClampNeg)
  refine lv_aload_n hx hb dL_law_523 rfl (lv_at hl 1 rfl) ?_
  refine lv_aload_n hx hb dL_law_524 rfl (lv_at hl 0 rfl) ?_
  refine lv_iload_n hx hb dL_law_525 rfl (lv_at hl 3 rfl) ?_
  refine lv_iconst (v := 1) hx hb dL_law_526 (by decide) ?_
  refine lv_iadd hx hb dL_law_527 ?_
  refine va_sld hx hb hX hbl hbA hd.2.2 (hin 1 (by decide)) dL_law_528 ?_
  refine lcI S hK1 (xs_C G1 ks) hXs hge1 hd.1 hd.2.2 hl.1 lw_kw_L_60 (by decide) cC24 rfl (c_X3_now l G1 ks hJ1 h1) ⟨Nat.le_of_ble_eq_true rfl, Nat.le_of_ble_eq_true rfl⟩ rfl (rest := []) rfl (Nat.le_of_ble_eq_true rfl) dL_law_529 ⟨Nat.le_of_ble_eq_true rfl, Nat.le_of_ble_eq_true rfl⟩ (fun H1 locs1 hQ hk1 hS1 => ?_)
  replace hd : LwD s G1 G2 VC1 VM H1 locs1 := ⟨hQ, gW_keep hd.2.1 hk1 (fun i j hi hj h => hdis j i hj hi h.symm), hS1⟩
  clear hQ hk1 hS1
  refine lv_aload_n hx hb dL_law_532 rfl (lv_at hl 2 rfl) ?_
  refine lv_aload_n hx hb dL_law_533 rfl (lv_at hl 0 rfl) ?_
  refine lv_iload_n hx hb dL_law_534 rfl (lv_at hl 3 rfl) ?_
  refine lv_iconst (v := 1) hx hb dL_law_535 (by decide) ?_
  refine lv_iadd hx hb dL_law_536 ?_
  refine va_sld hx hb hX hbl hbA hd.2.2 (hin 1 (by decide)) dL_law_537 ?_
  refine lcI S hK2 (xs_M G2) trivial hge2 hd.2.1 hd.2.2 hl.1 lw_kw_L_63 (by decide) cM0 rfl (c_X4_now l G2 hJ2 h2) ⟨Nat.le_of_ble_eq_true rfl, Nat.le_of_ble_eq_true rfl⟩ rfl (rest := [.int _]) rfl (Nat.le_of_ble_eq_true rfl) dL_law_538 ⟨Nat.le_of_ble_eq_true rfl, Nat.le_of_ble_eq_true rfl⟩ (fun H1 locs1 hQ hk1 hS1 => ?_)
  replace hd : LwD s G1 G2 VC1 VM1 H1 locs1 := ⟨gW_keep hd.1 hk1 hdis, hQ, hS1⟩
  clear hQ hk1 hS1
  refine lv_icmp_eq (tgt := 1305) hx hb dL_law_541 (by decide) (fun _ => ?_) (fun hc => absurd rfl hc)
  exact kk VC1 VM1 _ _ _ hr1 hd hl
set_option maxRecDepth 100000 in
set_option maxHeartbeats 4000000 in
theorem law_on {p : Program} {l : Launch} {e : Env} {s : State} {m : MethodId} {below : List Frame} {meth : Method} {c : Code} {b L : Nat} {xs : Nat → Int32} {G1 G2 : Gd} {ks : Ks} {H : Heap} {locs : List Loc} {ls : Array Slot} {VC VM : VV} {x3 : Int32} {Q : State → Prop} {Rel : VV → VV → Prop} (hop : Op3 Rel f_X3_on f_X4_on) (C : LwC p s m c b L xs G1 G2 ks) (hrel : Rel VC VM) (hd : LwD s G1 G2 VC VM H locs) (hl : lv_has ls 4 [(0, .ref b), (1, .ref (G1.2.2 24)), (2, .ref (G2.2.2 0)), (3, .int x3)]) (hin : ∀ j : Nat, j < 6 → vp_in (x3 + nI j) L)
    (kk : ∀ (VC VM : VV) (H : Heap) (locs : List Loc) (ls : Array Slot), Rel VC VM → LwD s G1 G2 VC VM H locs → lv_has ls 4 [(0, .ref b), (1, .ref (G1.2.2 24)), (2, .ref (G2.2.2 0)), (3, .int x3)] → W p l e room_1 s m #[Value.ref b] below meth c H locs 48 1111 Q (F0 m 1305 ls [])) : W p l e room_1 s m #[Value.ref b] below meth c H locs 48 1111 Q (F0 m 546 ls []) := by
  obtain ⟨S, hX, hbl, hK1, hK2, hJ1, hJ2, hXs, hge1, hge2, hdis⟩ := C
  obtain ⟨hx, hb, hml, hown, hts⟩ := id S
  have hbA : ¬ lwA s b := Nat.not_le.mpr hbl
  obtain ⟨r, VC1, VM1, h1, h2, hr1⟩ := hop VC VM hrel (xs (x3 + 1).toNatClampNeg) (xs (x3 + 2).toNatClampNeg) (xs (x3 + 3).toNatClampNeg)
  refine lv_aload_n hx hb dL_law_546 rfl (lv_at hl 1 rfl) ?_
  refine lv_aload_n hx hb dL_law_547 rfl (lv_at hl 0 rfl) ?_
  refine lv_iload_n hx hb dL_law_548 rfl (lv_at hl 3 rfl) ?_
  refine lv_iconst (v := 1) hx hb dL_law_549 (by decide) ?_
  refine lv_iadd hx hb dL_law_550 ?_
  refine va_sld hx hb hX hbl hbA hd.2.2 (hin 1 (by decide)) dL_law_551 ?_
  refine lv_aload_n hx hb dL_law_552 rfl (lv_at hl 0 rfl) ?_
  refine lv_iload_n hx hb dL_law_553 rfl (lv_at hl 3 rfl) ?_
  refine lv_iconst (v := 2) hx hb dL_law_554 (by decide) ?_
  refine lv_iadd hx hb dL_law_555 ?_
  refine va_sld hx hb hX hbl hbA hd.2.2 (hin 2 (by decide)) dL_law_556 ?_
  refine lv_aload_n hx hb dL_law_557 rfl (lv_at hl 0 rfl) ?_
  refine lv_iload_n hx hb dL_law_558 rfl (lv_at hl 3 rfl) ?_
  refine lv_iconst (v := 3) hx hb dL_law_559 (by decide) ?_
  refine lv_iadd hx hb dL_law_560 ?_
  refine va_sld hx hb hX hbl hbA hd.2.2 (hin 3 (by decide)) dL_law_561 ?_
  refine lcI S hK1 (xs_C G1 ks) hXs hge1 hd.1 hd.2.2 hl.1 lw_kw_L_64 (by decide) cC24 rfl (c_X3_on l G1 ks hJ1 h1) ⟨Nat.le_of_ble_eq_true rfl, Nat.le_of_ble_eq_true rfl⟩ rfl (rest := []) rfl (Nat.le_of_ble_eq_true rfl) dL_law_562 ⟨Nat.le_of_ble_eq_true rfl, Nat.le_of_ble_eq_true rfl⟩ (fun H1 locs1 hQ hk1 hS1 => ?_)
  replace hd : LwD s G1 G2 VC1 VM H1 locs1 := ⟨hQ, gW_keep hd.2.1 hk1 (fun i j hi hj h => hdis j i hj hi h.symm), hS1⟩
  clear hQ hk1 hS1
  refine lv_aload_n hx hb dL_law_565 rfl (lv_at hl 2 rfl) ?_
  refine lv_aload_n hx hb dL_law_566 rfl (lv_at hl 0 rfl) ?_
  refine lv_iload_n hx hb dL_law_567 rfl (lv_at hl 3 rfl) ?_
  refine lv_iconst (v := 1) hx hb dL_law_568 (by decide) ?_
  refine lv_iadd hx hb dL_law_569 ?_
  refine va_sld hx hb hX hbl hbA hd.2.2 (hin 1 (by decide)) dL_law_570 ?_
  refine lv_aload_n hx hb dL_law_571 rfl (lv_at hl 0 rfl) ?_
  refine lv_iload_n hx hb dL_law_572 rfl (lv_at hl 3 rfl) ?_
  refine lv_iconst (v := 2) hx hb dL_law_573 (by decide) ?_
  refine lv_iadd hx hb dL_law_574 ?_
  refine va_sld hx hb hX hbl hbA hd.2.2 (hin 2 (by decide)) dL_law_575 ?_
  refine lv_aload_n hx hb dL_law_576 rfl (lv_at hl 0 rfl) ?_
  refine lv_iload_n hx hb dL_law_577 rfl (lv_at hl 3 rfl) ?_
  refine lv_iconst (v := 3) hx hb dL_law_578 (by decide) ?_
  refine lv_iadd hx hb dL_law_579 ?_
  refine va_sld hx hb hX hbl hbA hd.2.2 (hin 3 (by decide)) dL_law_580 ?_
  refine lcI S hK2 (xs_M G2) trivial hge2 hd.2.1 hd.2.2 hl.1 lw_kw_L_67 (by decide) cM0 rfl (c_X4_on l G2 hJ2 h2) ⟨Nat.le_of_ble_eq_true rfl, Nat.le_of_ble_eq_true rfl⟩ rfl (rest := [.int _]) rfl (Nat.le_of_ble_eq_true rfl) dL_law_581 ⟨Nat.le_of_ble_eq_true rfl, Nat.le_of_ble_eq_true rfl⟩ (fun H1 locs1 hQ hk1 hS1 => ?_)
  replace hd : LwD s G1 G2 VC1 VM1 H1 locs1 := ⟨gW_keep hd.1 hk1 hdis, hQ, hS1⟩
  clear hQ hk1 hS1
  refine lv_icmp_eq (tgt := 1305) hx hb dL_law_584 (by decide) (fun _ => ?_) (fun hc => absurd rfl hc)
  exact kk VC1 VM1 _ _ _ hr1 hd hl
set_option maxRecDepth 100000 in
set_option maxHeartbeats 4000000 in
theorem law_meet {p : Program} {l : Launch} {e : Env} {s : State} {m : MethodId} {below : List Frame} {meth : Method} {c : Code} {b L : Nat} {xs : Nat → Int32} {G1 G2 : Gd} {ks : Ks} {H : Heap} {locs : List Loc} {ls : Array Slot} {VC VM : VV} {x3 : Int32} {Q : State → Prop} {Rel : VV → VV → Prop} (hop : Op2 Rel f_X3_meet f_X4_meet) (C : LwC p s m c b L xs G1 G2 ks) (hrel : Rel VC VM) (hd : LwD s G1 G2 VC VM H locs) (hl : lv_has ls 4 [(0, .ref b), (1, .ref (G1.2.2 24)), (2, .ref (G2.2.2 0)), (3, .int x3)]) (hin : ∀ j : Nat, j < 6 → vp_in (x3 + nI j) L)
    (kk : ∀ (VC VM : VV) (H : Heap) (locs : List Loc) (ls : Array Slot), Rel VC VM → LwD s G1 G2 VC VM H locs → lv_has ls 4 [(0, .ref b), (1, .ref (G1.2.2 24)), (2, .ref (G2.2.2 0)), (3, .int x3)] → W p l e room_1 s m #[Value.ref b] below meth c H locs 48 1111 Q (F0 m 1305 ls [])) : W p l e room_1 s m #[Value.ref b] below meth c H locs 48 1111 Q (F0 m 589 ls []) := by
  obtain ⟨S, hX, hbl, hK1, hK2, hJ1, hJ2, hXs, hge1, hge2, hdis⟩ := C
  obtain ⟨hx, hb, hml, hown, hts⟩ := id S
  have hbA : ¬ lwA s b := Nat.not_le.mpr hbl
  obtain ⟨r, VC1, VM1, h1, h2, hr1⟩ := hop VC VM hrel (xs (x3 + 1).toNatClampNeg) (xs (x3 + 2).toNatClampNeg)
  refine lv_aload_n hx hb dL_law_589 rfl (lv_at hl 1 rfl) ?_
  refine lv_aload_n hx hb dL_law_590 rfl (lv_at hl 0 rfl) ?_
  refine lv_iload_n hx hb dL_law_591 rfl (lv_at hl 3 rfl) ?_
  refine lv_iconst (v := 1) hx hb dL_law_592 (by decide) ?_
  refine lv_iadd hx hb dL_law_593 ?_
  refine va_sld hx hb hX hbl hbA hd.2.2 (hin 1 (by decide)) dL_law_594 ?_
  refine lv_aload_n hx hb dL_law_595 rfl (lv_at hl 0 rfl) ?_
  refine lv_iload_n hx hb dL_law_596 rfl (lv_at hl 3 rfl) ?_
  refine lv_iconst (v := 2) hx hb dL_law_597 (by decide) ?_
  refine lv_iadd hx hb dL_law_598 ?_
  refine va_sld hx hb hX hbl hbA hd.2.2 (hin 2 (by decide)) dL_law_599 ?_
  refine lcI S hK1 (xs_C G1 ks) hXs hge1 hd.1 hd.2.2 hl.1 lw_kw_L_68 (by decide) cC24 rfl (c_X3_meet l G1 ks hJ1 h1) ⟨Nat.le_of_ble_eq_true rfl, Nat.le_of_ble_eq_true rfl⟩ rfl (rest := []) rfl (Nat.le_of_ble_eq_true rfl) dL_law_600 ⟨Nat.le_of_ble_eq_true rfl, Nat.le_of_ble_eq_true rfl⟩ (fun H1 locs1 hQ hk1 hS1 => ?_)
  replace hd : LwD s G1 G2 VC1 VM H1 locs1 := ⟨hQ, gW_keep hd.2.1 hk1 (fun i j hi hj h => hdis j i hj hi h.symm), hS1⟩
  clear hQ hk1 hS1
  refine lv_aload_n hx hb dL_law_603 rfl (lv_at hl 2 rfl) ?_
  refine lv_aload_n hx hb dL_law_604 rfl (lv_at hl 0 rfl) ?_
  refine lv_iload_n hx hb dL_law_605 rfl (lv_at hl 3 rfl) ?_
  refine lv_iconst (v := 1) hx hb dL_law_606 (by decide) ?_
  refine lv_iadd hx hb dL_law_607 ?_
  refine va_sld hx hb hX hbl hbA hd.2.2 (hin 1 (by decide)) dL_law_608 ?_
  refine lv_aload_n hx hb dL_law_609 rfl (lv_at hl 0 rfl) ?_
  refine lv_iload_n hx hb dL_law_610 rfl (lv_at hl 3 rfl) ?_
  refine lv_iconst (v := 2) hx hb dL_law_611 (by decide) ?_
  refine lv_iadd hx hb dL_law_612 ?_
  refine va_sld hx hb hX hbl hbA hd.2.2 (hin 2 (by decide)) dL_law_613 ?_
  refine lcI S hK2 (xs_M G2) trivial hge2 hd.2.1 hd.2.2 hl.1 lw_kw_L_71 (by decide) cM0 rfl (c_X4_meet l G2 hJ2 h2) ⟨Nat.le_of_ble_eq_true rfl, Nat.le_of_ble_eq_true rfl⟩ rfl (rest := [.int _]) rfl (Nat.le_of_ble_eq_true rfl) dL_law_614 ⟨Nat.le_of_ble_eq_true rfl, Nat.le_of_ble_eq_true rfl⟩ (fun H1 locs1 hQ hk1 hS1 => ?_)
  replace hd : LwD s G1 G2 VC1 VM1 H1 locs1 := ⟨gW_keep hd.1 hk1 hdis, hQ, hS1⟩
  clear hQ hk1 hS1
  refine lv_icmp_eq (tgt := 1305) hx hb dL_law_617 (by decide) (fun _ => ?_) (fun hc => absurd rfl hc)
  exact kk VC1 VM1 _ _ _ hr1 hd hl
set_option maxRecDepth 100000 in
set_option maxHeartbeats 4000000 in
theorem law_when {p : Program} {l : Launch} {e : Env} {s : State} {m : MethodId} {below : List Frame} {meth : Method} {c : Code} {b L : Nat} {xs : Nat → Int32} {G1 G2 : Gd} {ks : Ks} {H : Heap} {locs : List Loc} {ls : Array Slot} {VC VM : VV} {x3 : Int32} {Q : State → Prop} {Rel : VV → VV → Prop} (hop : Op1 Rel f_X3_when f_X4_when) (C : LwC p s m c b L xs G1 G2 ks) (hrel : Rel VC VM) (hd : LwD s G1 G2 VC VM H locs) (hl : lv_has ls 4 [(0, .ref b), (1, .ref (G1.2.2 24)), (2, .ref (G2.2.2 0)), (3, .int x3)]) (hin : ∀ j : Nat, j < 6 → vp_in (x3 + nI j) L)
    (kk : ∀ (VC VM : VV) (H : Heap) (locs : List Loc) (ls : Array Slot), Rel VC VM → LwD s G1 G2 VC VM H locs → lv_has ls 4 [(0, .ref b), (1, .ref (G1.2.2 24)), (2, .ref (G2.2.2 0)), (3, .int x3)] → W p l e room_1 s m #[Value.ref b] below meth c H locs 48 1111 Q (F0 m 1305 ls [])) : W p l e room_1 s m #[Value.ref b] below meth c H locs 48 1111 Q (F0 m 622 ls []) := by
  obtain ⟨S, hX, hbl, hK1, hK2, hJ1, hJ2, hXs, hge1, hge2, hdis⟩ := C
  obtain ⟨hx, hb, hml, hown, hts⟩ := id S
  have hbA : ¬ lwA s b := Nat.not_le.mpr hbl
  obtain ⟨r, VC1, VM1, h1, h2, hr1⟩ := hop VC VM hrel (xs (x3 + 1).toNatClampNeg)
  refine lv_aload_n hx hb dL_law_622 rfl (lv_at hl 1 rfl) ?_
  refine lv_aload_n hx hb dL_law_623 rfl (lv_at hl 0 rfl) ?_
  refine lv_iload_n hx hb dL_law_624 rfl (lv_at hl 3 rfl) ?_
  refine lv_iconst (v := 1) hx hb dL_law_625 (by decide) ?_
  refine lv_iadd hx hb dL_law_626 ?_
  refine va_sld hx hb hX hbl hbA hd.2.2 (hin 1 (by decide)) dL_law_627 ?_
  refine lcI S hK1 (xs_C G1 ks) hXs hge1 hd.1 hd.2.2 hl.1 lw_kw_L_72 (by decide) cC24 rfl (c_X3_when l G1 ks hJ1 h1) ⟨Nat.le_of_ble_eq_true rfl, Nat.le_of_ble_eq_true rfl⟩ rfl (rest := []) rfl (Nat.le_of_ble_eq_true rfl) dL_law_628 ⟨Nat.le_of_ble_eq_true rfl, Nat.le_of_ble_eq_true rfl⟩ (fun H1 locs1 hQ hk1 hS1 => ?_)
  replace hd : LwD s G1 G2 VC1 VM H1 locs1 := ⟨hQ, gW_keep hd.2.1 hk1 (fun i j hi hj h => hdis j i hj hi h.symm), hS1⟩
  clear hQ hk1 hS1
  refine lv_aload_n hx hb dL_law_631 rfl (lv_at hl 2 rfl) ?_
  refine lv_aload_n hx hb dL_law_632 rfl (lv_at hl 0 rfl) ?_
  refine lv_iload_n hx hb dL_law_633 rfl (lv_at hl 3 rfl) ?_
  refine lv_iconst (v := 1) hx hb dL_law_634 (by decide) ?_
  refine lv_iadd hx hb dL_law_635 ?_
  refine va_sld hx hb hX hbl hbA hd.2.2 (hin 1 (by decide)) dL_law_636 ?_
  refine lcI S hK2 (xs_M G2) trivial hge2 hd.2.1 hd.2.2 hl.1 lw_kw_L_75 (by decide) cM0 rfl (c_X4_when l G2 hJ2 h2) ⟨Nat.le_of_ble_eq_true rfl, Nat.le_of_ble_eq_true rfl⟩ rfl (rest := [.int _]) rfl (Nat.le_of_ble_eq_true rfl) dL_law_637 ⟨Nat.le_of_ble_eq_true rfl, Nat.le_of_ble_eq_true rfl⟩ (fun H1 locs1 hQ hk1 hS1 => ?_)
  replace hd : LwD s G1 G2 VC1 VM1 H1 locs1 := ⟨gW_keep hd.1 hk1 hdis, hQ, hS1⟩
  clear hQ hk1 hS1
  refine lv_icmp_eq (tgt := 1305) hx hb dL_law_640 (by decide) (fun _ => ?_) (fun hc => absurd rfl hc)
  exact kk VC1 VM1 _ _ _ hr1 hd hl
set_option maxRecDepth 100000 in
set_option maxHeartbeats 4000000 in
theorem law_till {p : Program} {l : Launch} {e : Env} {s : State} {m : MethodId} {below : List Frame} {meth : Method} {c : Code} {b L : Nat} {xs : Nat → Int32} {G1 G2 : Gd} {ks : Ks} {H : Heap} {locs : List Loc} {ls : Array Slot} {VC VM : VV} {x3 : Int32} {Q : State → Prop} {Rel : VV → VV → Prop} (hop : Op1 Rel f_X3_till f_X4_till) (C : LwC p s m c b L xs G1 G2 ks) (hrel : Rel VC VM) (hd : LwD s G1 G2 VC VM H locs) (hl : lv_has ls 4 [(0, .ref b), (1, .ref (G1.2.2 24)), (2, .ref (G2.2.2 0)), (3, .int x3)]) (hin : ∀ j : Nat, j < 6 → vp_in (x3 + nI j) L)
    (kk : ∀ (VC VM : VV) (H : Heap) (locs : List Loc) (ls : Array Slot), Rel VC VM → LwD s G1 G2 VC VM H locs → lv_has ls 4 [(0, .ref b), (1, .ref (G1.2.2 24)), (2, .ref (G2.2.2 0)), (3, .int x3)] → W p l e room_1 s m #[Value.ref b] below meth c H locs 48 1111 Q (F0 m 1305 ls [])) : W p l e room_1 s m #[Value.ref b] below meth c H locs 48 1111 Q (F0 m 645 ls []) := by
  obtain ⟨S, hX, hbl, hK1, hK2, hJ1, hJ2, hXs, hge1, hge2, hdis⟩ := C
  obtain ⟨hx, hb, hml, hown, hts⟩ := id S
  have hbA : ¬ lwA s b := Nat.not_le.mpr hbl
  obtain ⟨r, VC1, VM1, h1, h2, hr1⟩ := hop VC VM hrel (xs (x3 + 1).toNatClampNeg)
  refine lv_aload_n hx hb dL_law_645 rfl (lv_at hl 1 rfl) ?_
  refine lv_aload_n hx hb dL_law_646 rfl (lv_at hl 0 rfl) ?_
  refine lv_iload_n hx hb dL_law_647 rfl (lv_at hl 3 rfl) ?_
  refine lv_iconst (v := 1) hx hb dL_law_648 (by decide) ?_
  refine lv_iadd hx hb dL_law_649 ?_
  refine va_sld hx hb hX hbl hbA hd.2.2 (hin 1 (by decide)) dL_law_650 ?_
  refine lcI S hK1 (xs_C G1 ks) hXs hge1 hd.1 hd.2.2 hl.1 lw_kw_L_76 (by decide) cC24 rfl (c_X3_till l G1 ks hJ1 h1) ⟨Nat.le_of_ble_eq_true rfl, Nat.le_of_ble_eq_true rfl⟩ rfl (rest := []) rfl (Nat.le_of_ble_eq_true rfl) dL_law_651 ⟨Nat.le_of_ble_eq_true rfl, Nat.le_of_ble_eq_true rfl⟩ (fun H1 locs1 hQ hk1 hS1 => ?_)
  replace hd : LwD s G1 G2 VC1 VM H1 locs1 := ⟨hQ, gW_keep hd.2.1 hk1 (fun i j hi hj h => hdis j i hj hi h.symm), hS1⟩
  clear hQ hk1 hS1
  refine lv_aload_n hx hb dL_law_654 rfl (lv_at hl 2 rfl) ?_
  refine lv_aload_n hx hb dL_law_655 rfl (lv_at hl 0 rfl) ?_
  refine lv_iload_n hx hb dL_law_656 rfl (lv_at hl 3 rfl) ?_
  refine lv_iconst (v := 1) hx hb dL_law_657 (by decide) ?_
  refine lv_iadd hx hb dL_law_658 ?_
  refine va_sld hx hb hX hbl hbA hd.2.2 (hin 1 (by decide)) dL_law_659 ?_
  refine lcI S hK2 (xs_M G2) trivial hge2 hd.2.1 hd.2.2 hl.1 lw_kw_L_79 (by decide) cM0 rfl (c_X4_till l G2 hJ2 h2) ⟨Nat.le_of_ble_eq_true rfl, Nat.le_of_ble_eq_true rfl⟩ rfl (rest := [.int _]) rfl (Nat.le_of_ble_eq_true rfl) dL_law_660 ⟨Nat.le_of_ble_eq_true rfl, Nat.le_of_ble_eq_true rfl⟩ (fun H1 locs1 hQ hk1 hS1 => ?_)
  replace hd : LwD s G1 G2 VC1 VM1 H1 locs1 := ⟨gW_keep hd.1 hk1 hdis, hQ, hS1⟩
  clear hQ hk1 hS1
  refine lv_icmp_eq (tgt := 1305) hx hb dL_law_663 (by decide) (fun _ => ?_) (fun hc => absurd rfl hc)
  exact kk VC1 VM1 _ _ _ hr1 hd hl
set_option maxRecDepth 100000 in
set_option maxHeartbeats 4000000 in
theorem law_glad {p : Program} {l : Launch} {e : Env} {s : State} {m : MethodId} {below : List Frame} {meth : Method} {c : Code} {b L : Nat} {xs : Nat → Int32} {G1 G2 : Gd} {ks : Ks} {H : Heap} {locs : List Loc} {ls : Array Slot} {VC VM : VV} {x3 : Int32} {Q : State → Prop} {Rel : VV → VV → Prop} (hop : Op1 Rel f_X3_glad f_X4_glad) (C : LwC p s m c b L xs G1 G2 ks) (hrel : Rel VC VM) (hd : LwD s G1 G2 VC VM H locs) (hl : lv_has ls 4 [(0, .ref b), (1, .ref (G1.2.2 24)), (2, .ref (G2.2.2 0)), (3, .int x3)]) (hin : ∀ j : Nat, j < 6 → vp_in (x3 + nI j) L)
    (kk : ∀ (VC VM : VV) (H : Heap) (locs : List Loc) (ls : Array Slot), Rel VC VM → LwD s G1 G2 VC VM H locs → lv_has ls 4 [(0, .ref b), (1, .ref (G1.2.2 24)), (2, .ref (G2.2.2 0)), (3, .int x3)] → W p l e room_1 s m #[Value.ref b] below meth c H locs 48 1111 Q (F0 m 1305 ls [])) : W p l e room_1 s m #[Value.ref b] below meth c H locs 48 1111 Q (F0 m 668 ls []) := by
  obtain ⟨S, hX, hbl, hK1, hK2, hJ1, hJ2, hXs, hge1, hge2, hdis⟩ := C
  obtain ⟨hx, hb, hml, hown, hts⟩ := id S
  have hbA : ¬ lwA s b := Nat.not_le.mpr hbl
  obtain ⟨r, VC1, VM1, h1, h2, hr1⟩ := hop VC VM hrel (xs (x3 + 1).toNatClampNeg)
  refine lv_aload_n hx hb dL_law_668 rfl (lv_at hl 1 rfl) ?_
  refine lv_aload_n hx hb dL_law_669 rfl (lv_at hl 0 rfl) ?_
  refine lv_iload_n hx hb dL_law_670 rfl (lv_at hl 3 rfl) ?_
  refine lv_iconst (v := 1) hx hb dL_law_671 (by decide) ?_
  refine lv_iadd hx hb dL_law_672 ?_
  refine va_sld hx hb hX hbl hbA hd.2.2 (hin 1 (by decide)) dL_law_673 ?_
  refine lcI S hK1 (xs_C G1 ks) hXs hge1 hd.1 hd.2.2 hl.1 lw_kw_L_80 (by decide) cC24 rfl (c_X3_glad l G1 ks hJ1 h1) ⟨Nat.le_of_ble_eq_true rfl, Nat.le_of_ble_eq_true rfl⟩ rfl (rest := []) rfl (Nat.le_of_ble_eq_true rfl) dL_law_674 ⟨Nat.le_of_ble_eq_true rfl, Nat.le_of_ble_eq_true rfl⟩ (fun H1 locs1 hQ hk1 hS1 => ?_)
  replace hd : LwD s G1 G2 VC1 VM H1 locs1 := ⟨hQ, gW_keep hd.2.1 hk1 (fun i j hi hj h => hdis j i hj hi h.symm), hS1⟩
  clear hQ hk1 hS1
  refine lv_aload_n hx hb dL_law_677 rfl (lv_at hl 2 rfl) ?_
  refine lv_aload_n hx hb dL_law_678 rfl (lv_at hl 0 rfl) ?_
  refine lv_iload_n hx hb dL_law_679 rfl (lv_at hl 3 rfl) ?_
  refine lv_iconst (v := 1) hx hb dL_law_680 (by decide) ?_
  refine lv_iadd hx hb dL_law_681 ?_
  refine va_sld hx hb hX hbl hbA hd.2.2 (hin 1 (by decide)) dL_law_682 ?_
  refine lcI S hK2 (xs_M G2) trivial hge2 hd.2.1 hd.2.2 hl.1 lw_kw_L_83 (by decide) cM0 rfl (c_X4_glad l G2 hJ2 h2) ⟨Nat.le_of_ble_eq_true rfl, Nat.le_of_ble_eq_true rfl⟩ rfl (rest := [.int _]) rfl (Nat.le_of_ble_eq_true rfl) dL_law_683 ⟨Nat.le_of_ble_eq_true rfl, Nat.le_of_ble_eq_true rfl⟩ (fun H1 locs1 hQ hk1 hS1 => ?_)
  replace hd : LwD s G1 G2 VC1 VM1 H1 locs1 := ⟨gW_keep hd.1 hk1 hdis, hQ, hS1⟩
  clear hQ hk1 hS1
  refine lv_icmp_eq (tgt := 1305) hx hb dL_law_686 (by decide) (fun _ => ?_) (fun hc => absurd rfl hc)
  exact kk VC1 VM1 _ _ _ hr1 hd hl
set_option maxRecDepth 100000 in
set_option maxHeartbeats 4000000 in
theorem law_heading {p : Program} {l : Launch} {e : Env} {s : State} {m : MethodId} {below : List Frame} {meth : Method} {c : Code} {b L : Nat} {xs : Nat → Int32} {G1 G2 : Gd} {ks : Ks} {H : Heap} {locs : List Loc} {ls : Array Slot} {VC VM : VV} {x3 : Int32} {Q : State → Prop} {Rel : VV → VV → Prop} (hop : Op2 Rel f_X3_heading f_X4_heading) (C : LwC p s m c b L xs G1 G2 ks) (hrel : Rel VC VM) (hd : LwD s G1 G2 VC VM H locs) (hl : lv_has ls 4 [(0, .ref b), (1, .ref (G1.2.2 24)), (2, .ref (G2.2.2 0)), (3, .int x3)]) (hin : ∀ j : Nat, j < 6 → vp_in (x3 + nI j) L)
    (kk : ∀ (VC VM : VV) (H : Heap) (locs : List Loc) (ls : Array Slot), Rel VC VM → LwD s G1 G2 VC VM H locs → lv_has ls 4 [(0, .ref b), (1, .ref (G1.2.2 24)), (2, .ref (G2.2.2 0)), (3, .int x3)] → W p l e room_1 s m #[Value.ref b] below meth c H locs 48 1111 Q (F0 m 1305 ls [])) : W p l e room_1 s m #[Value.ref b] below meth c H locs 48 1111 Q (F0 m 691 ls []) := by
  obtain ⟨S, hX, hbl, hK1, hK2, hJ1, hJ2, hXs, hge1, hge2, hdis⟩ := C
  obtain ⟨hx, hb, hml, hown, hts⟩ := id S
  have hbA : ¬ lwA s b := Nat.not_le.mpr hbl
  obtain ⟨r, VC1, VM1, h1, h2, hr1⟩ := hop VC VM hrel (xs (x3 + 1).toNatClampNeg) (xs (x3 + 2).toNatClampNeg)
  refine lv_aload_n hx hb dL_law_691 rfl (lv_at hl 1 rfl) ?_
  refine lv_aload_n hx hb dL_law_692 rfl (lv_at hl 0 rfl) ?_
  refine lv_iload_n hx hb dL_law_693 rfl (lv_at hl 3 rfl) ?_
  refine lv_iconst (v := 1) hx hb dL_law_694 (by decide) ?_
  refine lv_iadd hx hb dL_law_695 ?_
  refine va_sld hx hb hX hbl hbA hd.2.2 (hin 1 (by decide)) dL_law_696 ?_
  refine lv_aload_n hx hb dL_law_697 rfl (lv_at hl 0 rfl) ?_
  refine lv_iload_n hx hb dL_law_698 rfl (lv_at hl 3 rfl) ?_
  refine lv_iconst (v := 2) hx hb dL_law_699 (by decide) ?_
  refine lv_iadd hx hb dL_law_700 ?_
  refine va_sld hx hb hX hbl hbA hd.2.2 (hin 2 (by decide)) dL_law_701 ?_
  refine lcI S hK1 (xs_C G1 ks) hXs hge1 hd.1 hd.2.2 hl.1 lw_kw_L_84 (by decide) cC24 rfl (c_X3_heading l G1 ks hJ1 h1) ⟨Nat.le_of_ble_eq_true rfl, Nat.le_of_ble_eq_true rfl⟩ rfl (rest := []) rfl (Nat.le_of_ble_eq_true rfl) dL_law_702 ⟨Nat.le_of_ble_eq_true rfl, Nat.le_of_ble_eq_true rfl⟩ (fun H1 locs1 hQ hk1 hS1 => ?_)
  replace hd : LwD s G1 G2 VC1 VM H1 locs1 := ⟨hQ, gW_keep hd.2.1 hk1 (fun i j hi hj h => hdis j i hj hi h.symm), hS1⟩
  clear hQ hk1 hS1
  refine lv_aload_n hx hb dL_law_705 rfl (lv_at hl 2 rfl) ?_
  refine lv_aload_n hx hb dL_law_706 rfl (lv_at hl 0 rfl) ?_
  refine lv_iload_n hx hb dL_law_707 rfl (lv_at hl 3 rfl) ?_
  refine lv_iconst (v := 1) hx hb dL_law_708 (by decide) ?_
  refine lv_iadd hx hb dL_law_709 ?_
  refine va_sld hx hb hX hbl hbA hd.2.2 (hin 1 (by decide)) dL_law_710 ?_
  refine lv_aload_n hx hb dL_law_711 rfl (lv_at hl 0 rfl) ?_
  refine lv_iload_n hx hb dL_law_712 rfl (lv_at hl 3 rfl) ?_
  refine lv_iconst (v := 2) hx hb dL_law_713 (by decide) ?_
  refine lv_iadd hx hb dL_law_714 ?_
  refine va_sld hx hb hX hbl hbA hd.2.2 (hin 2 (by decide)) dL_law_715 ?_
  refine lcI S hK2 (xs_M G2) trivial hge2 hd.2.1 hd.2.2 hl.1 lw_kw_L_87 (by decide) cM0 rfl (c_X4_heading l G2 hJ2 h2) ⟨Nat.le_of_ble_eq_true rfl, Nat.le_of_ble_eq_true rfl⟩ rfl (rest := [.int _]) rfl (Nat.le_of_ble_eq_true rfl) dL_law_716 ⟨Nat.le_of_ble_eq_true rfl, Nat.le_of_ble_eq_true rfl⟩ (fun H1 locs1 hQ hk1 hS1 => ?_)
  replace hd : LwD s G1 G2 VC1 VM1 H1 locs1 := ⟨gW_keep hd.1 hk1 hdis, hQ, hS1⟩
  clear hQ hk1 hS1
  refine lv_icmp_eq (tgt := 1305) hx hb dL_law_719 (by decide) (fun _ => ?_) (fun hc => absurd rfl hc)
  exact kk VC1 VM1 _ _ _ hr1 hd hl
set_option maxRecDepth 100000 in
set_option maxHeartbeats 4000000 in
theorem law_begin {p : Program} {l : Launch} {e : Env} {s : State} {m : MethodId} {below : List Frame} {meth : Method} {c : Code} {b L : Nat} {xs : Nat → Int32} {G1 G2 : Gd} {ks : Ks} {H : Heap} {locs : List Loc} {ls : Array Slot} {VC VM : VV} {x3 : Int32} {Q : State → Prop} {Rel : VV → VV → Prop} (hop : Op2 Rel f_X3_begin f_X4_begin) (C : LwC p s m c b L xs G1 G2 ks) (hrel : Rel VC VM) (hd : LwD s G1 G2 VC VM H locs) (hl : lv_has ls 4 [(0, .ref b), (1, .ref (G1.2.2 24)), (2, .ref (G2.2.2 0)), (3, .int x3)]) (hin : ∀ j : Nat, j < 6 → vp_in (x3 + nI j) L)
    (kk : ∀ (VC VM : VV) (H : Heap) (locs : List Loc) (ls : Array Slot), Rel VC VM → LwD s G1 G2 VC VM H locs → lv_has ls 4 [(0, .ref b), (1, .ref (G1.2.2 24)), (2, .ref (G2.2.2 0)), (3, .int x3)] → W p l e room_1 s m #[Value.ref b] below meth c H locs 48 1111 Q (F0 m 1305 ls [])) : W p l e room_1 s m #[Value.ref b] below meth c H locs 48 1111 Q (F0 m 724 ls []) := by
  obtain ⟨S, hX, hbl, hK1, hK2, hJ1, hJ2, hXs, hge1, hge2, hdis⟩ := C
  obtain ⟨hx, hb, hml, hown, hts⟩ := id S
  have hbA : ¬ lwA s b := Nat.not_le.mpr hbl
  obtain ⟨r, VC1, VM1, h1, h2, hr1⟩ := hop VC VM hrel (xs (x3 + 1).toNatClampNeg) (xs (x3 + 2).toNatClampNeg)
  refine lv_aload_n hx hb dL_law_724 rfl (lv_at hl 1 rfl) ?_
  refine lv_aload_n hx hb dL_law_725 rfl (lv_at hl 0 rfl) ?_
  refine lv_iload_n hx hb dL_law_726 rfl (lv_at hl 3 rfl) ?_
  refine lv_iconst (v := 1) hx hb dL_law_727 (by decide) ?_
  refine lv_iadd hx hb dL_law_728 ?_
  refine va_sld hx hb hX hbl hbA hd.2.2 (hin 1 (by decide)) dL_law_729 ?_
  refine lv_aload_n hx hb dL_law_730 rfl (lv_at hl 0 rfl) ?_
  refine lv_iload_n hx hb dL_law_731 rfl (lv_at hl 3 rfl) ?_
  refine lv_iconst (v := 2) hx hb dL_law_732 (by decide) ?_
  refine lv_iadd hx hb dL_law_733 ?_
  refine va_sld hx hb hX hbl hbA hd.2.2 (hin 2 (by decide)) dL_law_734 ?_
  refine lcI S hK1 (xs_C G1 ks) hXs hge1 hd.1 hd.2.2 hl.1 lw_kw_L_88 (by decide) cC24 rfl (c_X3_begin l G1 ks hJ1 h1) ⟨Nat.le_of_ble_eq_true rfl, Nat.le_of_ble_eq_true rfl⟩ rfl (rest := []) rfl (Nat.le_of_ble_eq_true rfl) dL_law_735 ⟨Nat.le_of_ble_eq_true rfl, Nat.le_of_ble_eq_true rfl⟩ (fun H1 locs1 hQ hk1 hS1 => ?_)
  replace hd : LwD s G1 G2 VC1 VM H1 locs1 := ⟨hQ, gW_keep hd.2.1 hk1 (fun i j hi hj h => hdis j i hj hi h.symm), hS1⟩
  clear hQ hk1 hS1
  refine lv_aload_n hx hb dL_law_738 rfl (lv_at hl 2 rfl) ?_
  refine lv_aload_n hx hb dL_law_739 rfl (lv_at hl 0 rfl) ?_
  refine lv_iload_n hx hb dL_law_740 rfl (lv_at hl 3 rfl) ?_
  refine lv_iconst (v := 1) hx hb dL_law_741 (by decide) ?_
  refine lv_iadd hx hb dL_law_742 ?_
  refine va_sld hx hb hX hbl hbA hd.2.2 (hin 1 (by decide)) dL_law_743 ?_
  refine lv_aload_n hx hb dL_law_744 rfl (lv_at hl 0 rfl) ?_
  refine lv_iload_n hx hb dL_law_745 rfl (lv_at hl 3 rfl) ?_
  refine lv_iconst (v := 2) hx hb dL_law_746 (by decide) ?_
  refine lv_iadd hx hb dL_law_747 ?_
  refine va_sld hx hb hX hbl hbA hd.2.2 (hin 2 (by decide)) dL_law_748 ?_
  refine lcI S hK2 (xs_M G2) trivial hge2 hd.2.1 hd.2.2 hl.1 lw_kw_L_91 (by decide) cM0 rfl (c_X4_begin l G2 hJ2 h2) ⟨Nat.le_of_ble_eq_true rfl, Nat.le_of_ble_eq_true rfl⟩ rfl (rest := [.int _]) rfl (Nat.le_of_ble_eq_true rfl) dL_law_749 ⟨Nat.le_of_ble_eq_true rfl, Nat.le_of_ble_eq_true rfl⟩ (fun H1 locs1 hQ hk1 hS1 => ?_)
  replace hd : LwD s G1 G2 VC1 VM1 H1 locs1 := ⟨gW_keep hd.1 hk1 hdis, hQ, hS1⟩
  clear hQ hk1 hS1
  refine lv_icmp_eq (tgt := 1305) hx hb dL_law_752 (by decide) (fun _ => ?_) (fun hc => absurd rfl hc)
  exact kk VC1 VM1 _ _ _ hr1 hd hl
set_option maxRecDepth 100000 in
set_option maxHeartbeats 4000000 in
theorem law_kind {p : Program} {l : Launch} {e : Env} {s : State} {m : MethodId} {below : List Frame} {meth : Method} {c : Code} {b L : Nat} {xs : Nat → Int32} {G1 G2 : Gd} {ks : Ks} {H : Heap} {locs : List Loc} {ls : Array Slot} {VC VM : VV} {x3 : Int32} {Q : State → Prop} {Rel : VV → VV → Prop} (hop : Op1 Rel f_X3_kind f_X4_kind) (C : LwC p s m c b L xs G1 G2 ks) (hrel : Rel VC VM) (hd : LwD s G1 G2 VC VM H locs) (hl : lv_has ls 4 [(0, .ref b), (1, .ref (G1.2.2 24)), (2, .ref (G2.2.2 0)), (3, .int x3)]) (hin : ∀ j : Nat, j < 6 → vp_in (x3 + nI j) L)
    (kk : ∀ (VC VM : VV) (H : Heap) (locs : List Loc) (ls : Array Slot), Rel VC VM → LwD s G1 G2 VC VM H locs → lv_has ls 4 [(0, .ref b), (1, .ref (G1.2.2 24)), (2, .ref (G2.2.2 0)), (3, .int x3)] → W p l e room_1 s m #[Value.ref b] below meth c H locs 48 1111 Q (F0 m 1305 ls [])) : W p l e room_1 s m #[Value.ref b] below meth c H locs 48 1111 Q (F0 m 757 ls []) := by
  obtain ⟨S, hX, hbl, hK1, hK2, hJ1, hJ2, hXs, hge1, hge2, hdis⟩ := C
  obtain ⟨hx, hb, hml, hown, hts⟩ := id S
  have hbA : ¬ lwA s b := Nat.not_le.mpr hbl
  obtain ⟨r, VC1, VM1, h1, h2, hr1⟩ := hop VC VM hrel (xs (x3 + 1).toNatClampNeg)
  refine lv_aload_n hx hb dL_law_757 rfl (lv_at hl 1 rfl) ?_
  refine lv_aload_n hx hb dL_law_758 rfl (lv_at hl 0 rfl) ?_
  refine lv_iload_n hx hb dL_law_759 rfl (lv_at hl 3 rfl) ?_
  refine lv_iconst (v := 1) hx hb dL_law_760 (by decide) ?_
  refine lv_iadd hx hb dL_law_761 ?_
  refine va_sld hx hb hX hbl hbA hd.2.2 (hin 1 (by decide)) dL_law_762 ?_
  refine lcI S hK1 (xs_C G1 ks) hXs hge1 hd.1 hd.2.2 hl.1 lw_kw_L_92 (by decide) cC24 rfl (c_X3_kind l G1 ks hJ1 h1) ⟨Nat.le_of_ble_eq_true rfl, Nat.le_of_ble_eq_true rfl⟩ rfl (rest := []) rfl (Nat.le_of_ble_eq_true rfl) dL_law_763 ⟨Nat.le_of_ble_eq_true rfl, Nat.le_of_ble_eq_true rfl⟩ (fun H1 locs1 hQ hk1 hS1 => ?_)
  replace hd : LwD s G1 G2 VC1 VM H1 locs1 := ⟨hQ, gW_keep hd.2.1 hk1 (fun i j hi hj h => hdis j i hj hi h.symm), hS1⟩
  clear hQ hk1 hS1
  refine lv_aload_n hx hb dL_law_766 rfl (lv_at hl 2 rfl) ?_
  refine lv_aload_n hx hb dL_law_767 rfl (lv_at hl 0 rfl) ?_
  refine lv_iload_n hx hb dL_law_768 rfl (lv_at hl 3 rfl) ?_
  refine lv_iconst (v := 1) hx hb dL_law_769 (by decide) ?_
  refine lv_iadd hx hb dL_law_770 ?_
  refine va_sld hx hb hX hbl hbA hd.2.2 (hin 1 (by decide)) dL_law_771 ?_
  refine lcI S hK2 (xs_M G2) trivial hge2 hd.2.1 hd.2.2 hl.1 lw_kw_L_95 (by decide) cM0 rfl (c_X4_kind l G2 hJ2 h2) ⟨Nat.le_of_ble_eq_true rfl, Nat.le_of_ble_eq_true rfl⟩ rfl (rest := [.int _]) rfl (Nat.le_of_ble_eq_true rfl) dL_law_772 ⟨Nat.le_of_ble_eq_true rfl, Nat.le_of_ble_eq_true rfl⟩ (fun H1 locs1 hQ hk1 hS1 => ?_)
  replace hd : LwD s G1 G2 VC1 VM1 H1 locs1 := ⟨gW_keep hd.1 hk1 hdis, hQ, hS1⟩
  clear hQ hk1 hS1
  refine lv_icmp_eq (tgt := 1305) hx hb dL_law_775 (by decide) (fun _ => ?_) (fun hc => absurd rfl hc)
  exact kk VC1 VM1 _ _ _ hr1 hd hl
set_option maxRecDepth 100000 in
set_option maxHeartbeats 4000000 in
theorem law_hour {p : Program} {l : Launch} {e : Env} {s : State} {m : MethodId} {below : List Frame} {meth : Method} {c : Code} {b L : Nat} {xs : Nat → Int32} {G1 G2 : Gd} {ks : Ks} {H : Heap} {locs : List Loc} {ls : Array Slot} {VC VM : VV} {x3 : Int32} {Q : State → Prop} {Rel : VV → VV → Prop} (hop : Op2 Rel f_X3_hour f_X4_hour) (C : LwC p s m c b L xs G1 G2 ks) (hrel : Rel VC VM) (hd : LwD s G1 G2 VC VM H locs) (hl : lv_has ls 4 [(0, .ref b), (1, .ref (G1.2.2 24)), (2, .ref (G2.2.2 0)), (3, .int x3)]) (hin : ∀ j : Nat, j < 6 → vp_in (x3 + nI j) L)
    (kk : ∀ (VC VM : VV) (H : Heap) (locs : List Loc) (ls : Array Slot), Rel VC VM → LwD s G1 G2 VC VM H locs → lv_has ls 4 [(0, .ref b), (1, .ref (G1.2.2 24)), (2, .ref (G2.2.2 0)), (3, .int x3)] → W p l e room_1 s m #[Value.ref b] below meth c H locs 48 1111 Q (F0 m 1305 ls [])) : W p l e room_1 s m #[Value.ref b] below meth c H locs 48 1111 Q (F0 m 780 ls []) := by
  obtain ⟨S, hX, hbl, hK1, hK2, hJ1, hJ2, hXs, hge1, hge2, hdis⟩ := C
  obtain ⟨hx, hb, hml, hown, hts⟩ := id S
  have hbA : ¬ lwA s b := Nat.not_le.mpr hbl
  obtain ⟨r, VC1, VM1, h1, h2, hr1⟩ := hop VC VM hrel (xs (x3 + 1).toNatClampNeg) (xs (x3 + 2).toNatClampNeg)
  refine lv_aload_n hx hb dL_law_780 rfl (lv_at hl 1 rfl) ?_
  refine lv_aload_n hx hb dL_law_781 rfl (lv_at hl 0 rfl) ?_
  refine lv_iload_n hx hb dL_law_782 rfl (lv_at hl 3 rfl) ?_
  refine lv_iconst (v := 1) hx hb dL_law_783 (by decide) ?_
  refine lv_iadd hx hb dL_law_784 ?_
  refine va_sld hx hb hX hbl hbA hd.2.2 (hin 1 (by decide)) dL_law_785 ?_
  refine lv_aload_n hx hb dL_law_786 rfl (lv_at hl 0 rfl) ?_
  refine lv_iload_n hx hb dL_law_787 rfl (lv_at hl 3 rfl) ?_
  refine lv_iconst (v := 2) hx hb dL_law_788 (by decide) ?_
  refine lv_iadd hx hb dL_law_789 ?_
  refine va_sld hx hb hX hbl hbA hd.2.2 (hin 2 (by decide)) dL_law_790 ?_
  refine lcI S hK1 (xs_C G1 ks) hXs hge1 hd.1 hd.2.2 hl.1 lw_kw_L_96 (by decide) cC24 rfl (c_X3_hour l G1 ks hJ1 h1) ⟨Nat.le_of_ble_eq_true rfl, Nat.le_of_ble_eq_true rfl⟩ rfl (rest := []) rfl (Nat.le_of_ble_eq_true rfl) dL_law_791 ⟨Nat.le_of_ble_eq_true rfl, Nat.le_of_ble_eq_true rfl⟩ (fun H1 locs1 hQ hk1 hS1 => ?_)
  replace hd : LwD s G1 G2 VC1 VM H1 locs1 := ⟨hQ, gW_keep hd.2.1 hk1 (fun i j hi hj h => hdis j i hj hi h.symm), hS1⟩
  clear hQ hk1 hS1
  refine lv_aload_n hx hb dL_law_794 rfl (lv_at hl 2 rfl) ?_
  refine lv_aload_n hx hb dL_law_795 rfl (lv_at hl 0 rfl) ?_
  refine lv_iload_n hx hb dL_law_796 rfl (lv_at hl 3 rfl) ?_
  refine lv_iconst (v := 1) hx hb dL_law_797 (by decide) ?_
  refine lv_iadd hx hb dL_law_798 ?_
  refine va_sld hx hb hX hbl hbA hd.2.2 (hin 1 (by decide)) dL_law_799 ?_
  refine lv_aload_n hx hb dL_law_800 rfl (lv_at hl 0 rfl) ?_
  refine lv_iload_n hx hb dL_law_801 rfl (lv_at hl 3 rfl) ?_
  refine lv_iconst (v := 2) hx hb dL_law_802 (by decide) ?_
  refine lv_iadd hx hb dL_law_803 ?_
  refine va_sld hx hb hX hbl hbA hd.2.2 (hin 2 (by decide)) dL_law_804 ?_
  refine lcI S hK2 (xs_M G2) trivial hge2 hd.2.1 hd.2.2 hl.1 lw_kw_L_99 (by decide) cM0 rfl (c_X4_hour l G2 hJ2 h2) ⟨Nat.le_of_ble_eq_true rfl, Nat.le_of_ble_eq_true rfl⟩ rfl (rest := [.int _]) rfl (Nat.le_of_ble_eq_true rfl) dL_law_805 ⟨Nat.le_of_ble_eq_true rfl, Nat.le_of_ble_eq_true rfl⟩ (fun H1 locs1 hQ hk1 hS1 => ?_)
  replace hd : LwD s G1 G2 VC1 VM1 H1 locs1 := ⟨gW_keep hd.1 hk1 hdis, hQ, hS1⟩
  clear hQ hk1 hS1
  refine lv_icmp_eq (tgt := 1305) hx hb dL_law_808 (by decide) (fun _ => ?_) (fun hc => absurd rfl hc)
  exact kk VC1 VM1 _ _ _ hr1 hd hl
set_option maxRecDepth 100000 in
set_option maxHeartbeats 4000000 in
theorem law_hope {p : Program} {l : Launch} {e : Env} {s : State} {m : MethodId} {below : List Frame} {meth : Method} {c : Code} {b L : Nat} {xs : Nat → Int32} {G1 G2 : Gd} {ks : Ks} {H : Heap} {locs : List Loc} {ls : Array Slot} {VC VM : VV} {x3 : Int32} {Q : State → Prop} {Rel : VV → VV → Prop} (hop : Op2 Rel f_X3_hope f_X4_hope) (C : LwC p s m c b L xs G1 G2 ks) (hrel : Rel VC VM) (hd : LwD s G1 G2 VC VM H locs) (hl : lv_has ls 4 [(0, .ref b), (1, .ref (G1.2.2 24)), (2, .ref (G2.2.2 0)), (3, .int x3)]) (hin : ∀ j : Nat, j < 6 → vp_in (x3 + nI j) L)
    (kk : ∀ (VC VM : VV) (H : Heap) (locs : List Loc) (ls : Array Slot), Rel VC VM → LwD s G1 G2 VC VM H locs → lv_has ls 4 [(0, .ref b), (1, .ref (G1.2.2 24)), (2, .ref (G2.2.2 0)), (3, .int x3)] → W p l e room_1 s m #[Value.ref b] below meth c H locs 48 1111 Q (F0 m 1305 ls [])) : W p l e room_1 s m #[Value.ref b] below meth c H locs 48 1111 Q (F0 m 813 ls []) := by
  obtain ⟨S, hX, hbl, hK1, hK2, hJ1, hJ2, hXs, hge1, hge2, hdis⟩ := C
  obtain ⟨hx, hb, hml, hown, hts⟩ := id S
  have hbA : ¬ lwA s b := Nat.not_le.mpr hbl
  obtain ⟨r, VC1, VM1, h1, h2, hr1⟩ := hop VC VM hrel (xs (x3 + 1).toNatClampNeg) (xs (x3 + 2).toNatClampNeg)
  refine lv_aload_n hx hb dL_law_813 rfl (lv_at hl 1 rfl) ?_
  refine lv_aload_n hx hb dL_law_814 rfl (lv_at hl 0 rfl) ?_
  refine lv_iload_n hx hb dL_law_815 rfl (lv_at hl 3 rfl) ?_
  refine lv_iconst (v := 1) hx hb dL_law_816 (by decide) ?_
  refine lv_iadd hx hb dL_law_817 ?_
  refine va_sld hx hb hX hbl hbA hd.2.2 (hin 1 (by decide)) dL_law_818 ?_
  refine lv_aload_n hx hb dL_law_819 rfl (lv_at hl 0 rfl) ?_
  refine lv_iload_n hx hb dL_law_820 rfl (lv_at hl 3 rfl) ?_
  refine lv_iconst (v := 2) hx hb dL_law_821 (by decide) ?_
  refine lv_iadd hx hb dL_law_822 ?_
  refine va_sld hx hb hX hbl hbA hd.2.2 (hin 2 (by decide)) dL_law_823 ?_
  refine lcI S hK1 (xs_C G1 ks) hXs hge1 hd.1 hd.2.2 hl.1 lw_kw_L_100 (by decide) cC24 rfl (c_X3_hope l G1 ks hJ1 h1) ⟨Nat.le_of_ble_eq_true rfl, Nat.le_of_ble_eq_true rfl⟩ rfl (rest := []) rfl (Nat.le_of_ble_eq_true rfl) dL_law_824 ⟨Nat.le_of_ble_eq_true rfl, Nat.le_of_ble_eq_true rfl⟩ (fun H1 locs1 hQ hk1 hS1 => ?_)
  replace hd : LwD s G1 G2 VC1 VM H1 locs1 := ⟨hQ, gW_keep hd.2.1 hk1 (fun i j hi hj h => hdis j i hj hi h.symm), hS1⟩
  clear hQ hk1 hS1
  refine lv_aload_n hx hb dL_law_827 rfl (lv_at hl 2 rfl) ?_
  refine lv_aload_n hx hb dL_law_828 rfl (lv_at hl 0 rfl) ?_
  refine lv_iload_n hx hb dL_law_829 rfl (lv_at hl 3 rfl) ?_
  refine lv_iconst (v := 1) hx hb dL_law_830 (by decide) ?_
  refine lv_iadd hx hb dL_law_831 ?_
  refine va_sld hx hb hX hbl hbA hd.2.2 (hin 1 (by decide)) dL_law_832 ?_
  refine lv_aload_n hx hb dL_law_833 rfl (lv_at hl 0 rfl) ?_
  refine lv_iload_n hx hb dL_law_834 rfl (lv_at hl 3 rfl) ?_
  refine lv_iconst (v := 2) hx hb dL_law_835 (by decide) ?_
  refine lv_iadd hx hb dL_law_836 ?_
  refine va_sld hx hb hX hbl hbA hd.2.2 (hin 2 (by decide)) dL_law_837 ?_
  refine lcI S hK2 (xs_M G2) trivial hge2 hd.2.1 hd.2.2 hl.1 lw_kw_L_103 (by decide) cM0 rfl (c_X4_hope l G2 hJ2 h2) ⟨Nat.le_of_ble_eq_true rfl, Nat.le_of_ble_eq_true rfl⟩ rfl (rest := [.int _]) rfl (Nat.le_of_ble_eq_true rfl) dL_law_838 ⟨Nat.le_of_ble_eq_true rfl, Nat.le_of_ble_eq_true rfl⟩ (fun H1 locs1 hQ hk1 hS1 => ?_)
  replace hd : LwD s G1 G2 VC1 VM1 H1 locs1 := ⟨gW_keep hd.1 hk1 hdis, hQ, hS1⟩
  clear hQ hk1 hS1
  refine lv_icmp_eq (tgt := 1305) hx hb dL_law_841 (by decide) (fun _ => ?_) (fun hc => absurd rfl hc)
  exact kk VC1 VM1 _ _ _ hr1 hd hl
set_option maxRecDepth 100000 in
set_option maxHeartbeats 4000000 in
theorem law_more {p : Program} {l : Launch} {e : Env} {s : State} {m : MethodId} {below : List Frame} {meth : Method} {c : Code} {b L : Nat} {xs : Nat → Int32} {G1 G2 : Gd} {ks : Ks} {H : Heap} {locs : List Loc} {ls : Array Slot} {VC VM : VV} {x3 : Int32} {Q : State → Prop} {Rel : VV → VV → Prop} (hop : Op1 Rel f_X3_more f_X4_more) (C : LwC p s m c b L xs G1 G2 ks) (hrel : Rel VC VM) (hd : LwD s G1 G2 VC VM H locs) (hl : lv_has ls 4 [(0, .ref b), (1, .ref (G1.2.2 24)), (2, .ref (G2.2.2 0)), (3, .int x3)]) (hin : ∀ j : Nat, j < 6 → vp_in (x3 + nI j) L)
    (kk : ∀ (VC VM : VV) (H : Heap) (locs : List Loc) (ls : Array Slot), Rel VC VM → LwD s G1 G2 VC VM H locs → lv_has ls 4 [(0, .ref b), (1, .ref (G1.2.2 24)), (2, .ref (G2.2.2 0)), (3, .int x3)] → W p l e room_1 s m #[Value.ref b] below meth c H locs 48 1111 Q (F0 m 1305 ls [])) : W p l e room_1 s m #[Value.ref b] below meth c H locs 48 1111 Q (F0 m 846 ls []) := by
  obtain ⟨S, hX, hbl, hK1, hK2, hJ1, hJ2, hXs, hge1, hge2, hdis⟩ := C
  obtain ⟨hx, hb, hml, hown, hts⟩ := id S
  have hbA : ¬ lwA s b := Nat.not_le.mpr hbl
  obtain ⟨r, VC1, VM1, h1, h2, hr1⟩ := hop VC VM hrel (xs (x3 + 1).toNatClampNeg)
  refine lv_aload_n hx hb dL_law_846 rfl (lv_at hl 1 rfl) ?_
  refine lv_aload_n hx hb dL_law_847 rfl (lv_at hl 0 rfl) ?_
  refine lv_iload_n hx hb dL_law_848 rfl (lv_at hl 3 rfl) ?_
  refine lv_iconst (v := 1) hx hb dL_law_849 (by decide) ?_
  refine lv_iadd hx hb dL_law_850 ?_
  refine va_sld hx hb hX hbl hbA hd.2.2 (hin 1 (by decide)) dL_law_851 ?_
  refine lcI S hK1 (xs_C G1 ks) hXs hge1 hd.1 hd.2.2 hl.1 lw_kw_L_104 (by decide) cC24 rfl (c_X3_more l G1 ks hJ1 h1) ⟨Nat.le_of_ble_eq_true rfl, Nat.le_of_ble_eq_true rfl⟩ rfl (rest := []) rfl (Nat.le_of_ble_eq_true rfl) dL_law_852 ⟨Nat.le_of_ble_eq_true rfl, Nat.le_of_ble_eq_true rfl⟩ (fun H1 locs1 hQ hk1 hS1 => ?_)
  replace hd : LwD s G1 G2 VC1 VM H1 locs1 := ⟨hQ, gW_keep hd.2.1 hk1 (fun i j hi hj h => hdis j i hj hi h.symm), hS1⟩
  clear hQ hk1 hS1
  refine lv_aload_n hx hb dL_law_855 rfl (lv_at hl 2 rfl) ?_
  refine lv_aload_n hx hb dL_law_856 rfl (lv_at hl 0 rfl) ?_
  refine lv_iload_n hx hb dL_law_857 rfl (lv_at hl 3 rfl) ?_
  refine lv_iconst (v := 1) hx hb dL_law_858 (by decide) ?_
  refine lv_iadd hx hb dL_law_859 ?_
  refine va_sld hx hb hX hbl hbA hd.2.2 (hin 1 (by decide)) dL_law_860 ?_
  refine lcI S hK2 (xs_M G2) trivial hge2 hd.2.1 hd.2.2 hl.1 lw_kw_L_107 (by decide) cM0 rfl (c_X4_more l G2 hJ2 h2) ⟨Nat.le_of_ble_eq_true rfl, Nat.le_of_ble_eq_true rfl⟩ rfl (rest := [.int _]) rfl (Nat.le_of_ble_eq_true rfl) dL_law_861 ⟨Nat.le_of_ble_eq_true rfl, Nat.le_of_ble_eq_true rfl⟩ (fun H1 locs1 hQ hk1 hS1 => ?_)
  replace hd : LwD s G1 G2 VC1 VM1 H1 locs1 := ⟨gW_keep hd.1 hk1 hdis, hQ, hS1⟩
  clear hQ hk1 hS1
  refine lv_icmp_eq (tgt := 1305) hx hb dL_law_864 (by decide) (fun _ => ?_) (fun hc => absurd rfl hc)
  exact kk VC1 VM1 _ _ _ hr1 hd hl
set_option maxRecDepth 100000 in
set_option maxHeartbeats 4000000 in
theorem law_best {p : Program} {l : Launch} {e : Env} {s : State} {m : MethodId} {below : List Frame} {meth : Method} {c : Code} {b L : Nat} {xs : Nat → Int32} {G1 G2 : Gd} {ks : Ks} {H : Heap} {locs : List Loc} {ls : Array Slot} {VC VM : VV} {x3 : Int32} {Q : State → Prop} {Rel : VV → VV → Prop} (hop : Op1 Rel f_X3_best f_X4_best) (C : LwC p s m c b L xs G1 G2 ks) (hrel : Rel VC VM) (hd : LwD s G1 G2 VC VM H locs) (hl : lv_has ls 4 [(0, .ref b), (1, .ref (G1.2.2 24)), (2, .ref (G2.2.2 0)), (3, .int x3)]) (hin : ∀ j : Nat, j < 6 → vp_in (x3 + nI j) L)
    (kk : ∀ (VC VM : VV) (H : Heap) (locs : List Loc) (ls : Array Slot), Rel VC VM → LwD s G1 G2 VC VM H locs → lv_has ls 4 [(0, .ref b), (1, .ref (G1.2.2 24)), (2, .ref (G2.2.2 0)), (3, .int x3)] → W p l e room_1 s m #[Value.ref b] below meth c H locs 48 1111 Q (F0 m 1305 ls [])) : W p l e room_1 s m #[Value.ref b] below meth c H locs 48 1111 Q (F0 m 869 ls []) := by
  obtain ⟨S, hX, hbl, hK1, hK2, hJ1, hJ2, hXs, hge1, hge2, hdis⟩ := C
  obtain ⟨hx, hb, hml, hown, hts⟩ := id S
  have hbA : ¬ lwA s b := Nat.not_le.mpr hbl
  obtain ⟨r, VC1, VM1, h1, h2, hr1⟩ := hop VC VM hrel (xs (x3 + 1).toNatClampNeg)
  refine lv_aload_n hx hb dL_law_869 rfl (lv_at hl 1 rfl) ?_
  refine lv_aload_n hx hb dL_law_870 rfl (lv_at hl 0 rfl) ?_
  refine lv_iload_n hx hb dL_law_871 rfl (lv_at hl 3 rfl) ?_
  refine lv_iconst (v := 1) hx hb dL_law_872 (by decide) ?_
  refine lv_iadd hx hb dL_law_873 ?_
  refine va_sld hx hb hX hbl hbA hd.2.2 (hin 1 (by decide)) dL_law_874 ?_
  refine lcI S hK1 (xs_C G1 ks) hXs hge1 hd.1 hd.2.2 hl.1 lw_kw_L_108 (by decide) cC24 rfl (c_X3_best l G1 ks hJ1 h1) ⟨Nat.le_of_ble_eq_true rfl, Nat.le_of_ble_eq_true rfl⟩ rfl (rest := []) rfl (Nat.le_of_ble_eq_true rfl) dL_law_875 ⟨Nat.le_of_ble_eq_true rfl, Nat.le_of_ble_eq_true rfl⟩ (fun H1 locs1 hQ hk1 hS1 => ?_)
  replace hd : LwD s G1 G2 VC1 VM H1 locs1 := ⟨hQ, gW_keep hd.2.1 hk1 (fun i j hi hj h => hdis j i hj hi h.symm), hS1⟩
  clear hQ hk1 hS1
  refine lv_aload_n hx hb dL_law_878 rfl (lv_at hl 2 rfl) ?_
  refine lv_aload_n hx hb dL_law_879 rfl (lv_at hl 0 rfl) ?_
  refine lv_iload_n hx hb dL_law_880 rfl (lv_at hl 3 rfl) ?_
  refine lv_iconst (v := 1) hx hb dL_law_881 (by decide) ?_
  refine lv_iadd hx hb dL_law_882 ?_
  refine va_sld hx hb hX hbl hbA hd.2.2 (hin 1 (by decide)) dL_law_883 ?_
  refine lcI S hK2 (xs_M G2) trivial hge2 hd.2.1 hd.2.2 hl.1 lw_kw_L_111 (by decide) cM0 rfl (c_X4_best l G2 hJ2 h2) ⟨Nat.le_of_ble_eq_true rfl, Nat.le_of_ble_eq_true rfl⟩ rfl (rest := [.int _]) rfl (Nat.le_of_ble_eq_true rfl) dL_law_884 ⟨Nat.le_of_ble_eq_true rfl, Nat.le_of_ble_eq_true rfl⟩ (fun H1 locs1 hQ hk1 hS1 => ?_)
  replace hd : LwD s G1 G2 VC1 VM1 H1 locs1 := ⟨gW_keep hd.1 hk1 hdis, hQ, hS1⟩
  clear hQ hk1 hS1
  refine lv_icmp_eq (tgt := 1305) hx hb dL_law_887 (by decide) (fun _ => ?_) (fun hc => absurd rfl hc)
  exact kk VC1 VM1 _ _ _ hr1 hd hl
set_option maxRecDepth 100000 in
set_option maxHeartbeats 4000000 in
theorem law_feed {p : Program} {l : Launch} {e : Env} {s : State} {m : MethodId} {below : List Frame} {meth : Method} {c : Code} {b L : Nat} {xs : Nat → Int32} {G1 G2 : Gd} {ks : Ks} {H : Heap} {locs : List Loc} {ls : Array Slot} {VC VM : VV} {x3 : Int32} {Q : State → Prop} {Rel : VV → VV → Prop} (hop : Op2 Rel f_X3_feed f_X4_feed) (C : LwC p s m c b L xs G1 G2 ks) (hrel : Rel VC VM) (hd : LwD s G1 G2 VC VM H locs) (hl : lv_has ls 4 [(0, .ref b), (1, .ref (G1.2.2 24)), (2, .ref (G2.2.2 0)), (3, .int x3)]) (hin : ∀ j : Nat, j < 6 → vp_in (x3 + nI j) L)
    (kk : ∀ (VC VM : VV) (H : Heap) (locs : List Loc) (ls : Array Slot), Rel VC VM → LwD s G1 G2 VC VM H locs → lv_has ls 4 [(0, .ref b), (1, .ref (G1.2.2 24)), (2, .ref (G2.2.2 0)), (3, .int x3)] → W p l e room_1 s m #[Value.ref b] below meth c H locs 48 1111 Q (F0 m 1305 ls [])) : W p l e room_1 s m #[Value.ref b] below meth c H locs 48 1111 Q (F0 m 892 ls []) := by
  obtain ⟨S, hX, hbl, hK1, hK2, hJ1, hJ2, hXs, hge1, hge2, hdis⟩ := C
  obtain ⟨hx, hb, hml, hown, hts⟩ := id S
  have hbA : ¬ lwA s b := Nat.not_le.mpr hbl
  obtain ⟨r, VC1, VM1, h1, h2, hr1⟩ := hop VC VM hrel (xs (x3 + 1).toNatClampNeg) (xs (x3 + 2).toNatClampNeg)
  refine lv_aload_n hx hb dL_law_892 rfl (lv_at hl 1 rfl) ?_
  refine lv_aload_n hx hb dL_law_893 rfl (lv_at hl 0 rfl) ?_
  refine lv_iload_n hx hb dL_law_894 rfl (lv_at hl 3 rfl) ?_
  refine lv_iconst (v := 1) hx hb dL_law_895 (by decide) ?_
  refine lv_iadd hx hb dL_law_896 ?_
  refine va_sld hx hb hX hbl hbA hd.2.2 (hin 1 (by decide)) dL_law_897 ?_
  refine lv_aload_n hx hb dL_law_898 rfl (lv_at hl 0 rfl) ?_
  refine lv_iload_n hx hb dL_law_899 rfl (lv_at hl 3 rfl) ?_
  refine lv_iconst (v := 2) hx hb dL_law_900 (by decide) ?_
  refine lv_iadd hx hb dL_law_901 ?_
  refine va_sld hx hb hX hbl hbA hd.2.2 (hin 2 (by decide)) dL_law_902 ?_
  refine lcI S hK1 (xs_C G1 ks) hXs hge1 hd.1 hd.2.2 hl.1 lw_kw_L_112 (by decide) cC24 rfl (c_X3_feed l G1 ks hJ1 h1) ⟨Nat.le_of_ble_eq_true rfl, Nat.le_of_ble_eq_true rfl⟩ rfl (rest := []) rfl (Nat.le_of_ble_eq_true rfl) dL_law_903 ⟨Nat.le_of_ble_eq_true rfl, Nat.le_of_ble_eq_true rfl⟩ (fun H1 locs1 hQ hk1 hS1 => ?_)
  replace hd : LwD s G1 G2 VC1 VM H1 locs1 := ⟨hQ, gW_keep hd.2.1 hk1 (fun i j hi hj h => hdis j i hj hi h.symm), hS1⟩
  clear hQ hk1 hS1
  refine lv_aload_n hx hb dL_law_906 rfl (lv_at hl 2 rfl) ?_
  refine lv_aload_n hx hb dL_law_907 rfl (lv_at hl 0 rfl) ?_
  refine lv_iload_n hx hb dL_law_908 rfl (lv_at hl 3 rfl) ?_
  refine lv_iconst (v := 1) hx hb dL_law_909 (by decide) ?_
  refine lv_iadd hx hb dL_law_910 ?_
  refine va_sld hx hb hX hbl hbA hd.2.2 (hin 1 (by decide)) dL_law_911 ?_
  refine lv_aload_n hx hb dL_law_912 rfl (lv_at hl 0 rfl) ?_
  refine lv_iload_n hx hb dL_law_913 rfl (lv_at hl 3 rfl) ?_
  refine lv_iconst (v := 2) hx hb dL_law_914 (by decide) ?_
  refine lv_iadd hx hb dL_law_915 ?_
  refine va_sld hx hb hX hbl hbA hd.2.2 (hin 2 (by decide)) dL_law_916 ?_
  refine lcI S hK2 (xs_M G2) trivial hge2 hd.2.1 hd.2.2 hl.1 lw_kw_L_115 (by decide) cM0 rfl (c_X4_feed l G2 hJ2 h2) ⟨Nat.le_of_ble_eq_true rfl, Nat.le_of_ble_eq_true rfl⟩ rfl (rest := [.int _]) rfl (Nat.le_of_ble_eq_true rfl) dL_law_917 ⟨Nat.le_of_ble_eq_true rfl, Nat.le_of_ble_eq_true rfl⟩ (fun H1 locs1 hQ hk1 hS1 => ?_)
  replace hd : LwD s G1 G2 VC1 VM1 H1 locs1 := ⟨gW_keep hd.1 hk1 hdis, hQ, hS1⟩
  clear hQ hk1 hS1
  refine lv_icmp_eq (tgt := 1305) hx hb dL_law_920 (by decide) (fun _ => ?_) (fun hc => absurd rfl hc)
  exact kk VC1 VM1 _ _ _ hr1 hd hl
set_option maxRecDepth 100000 in
set_option maxHeartbeats 4000000 in
theorem law_wipe {p : Program} {l : Launch} {e : Env} {s : State} {m : MethodId} {below : List Frame} {meth : Method} {c : Code} {b L : Nat} {xs : Nat → Int32} {G1 G2 : Gd} {ks : Ks} {H : Heap} {locs : List Loc} {ls : Array Slot} {VC VM : VV} {x3 : Int32} {Q : State → Prop} {Rel : VV → VV → Prop} (hop : Op0 Rel f_X3_wipe f_X4_wipe) (C : LwC p s m c b L xs G1 G2 ks) (hrel : Rel VC VM) (hd : LwD s G1 G2 VC VM H locs) (hl : lv_has ls 4 [(0, .ref b), (1, .ref (G1.2.2 24)), (2, .ref (G2.2.2 0)), (3, .int x3)]) (hin : ∀ j : Nat, j < 6 → vp_in (x3 + nI j) L)
    (kk : ∀ (VC VM : VV) (H : Heap) (locs : List Loc) (ls : Array Slot), Rel VC VM → LwD s G1 G2 VC VM H locs → lv_has ls 4 [(0, .ref b), (1, .ref (G1.2.2 24)), (2, .ref (G2.2.2 0)), (3, .int x3)] → W p l e room_1 s m #[Value.ref b] below meth c H locs 48 1111 Q (F0 m 1305 ls [])) : W p l e room_1 s m #[Value.ref b] below meth c H locs 48 1111 Q (F0 m 925 ls []) := by
  obtain ⟨S, hX, hbl, hK1, hK2, hJ1, hJ2, hXs, hge1, hge2, hdis⟩ := C
  obtain ⟨hx, hb, hml, hown, hts⟩ := id S
  have hbA : ¬ lwA s b := Nat.not_le.mpr hbl
  obtain ⟨r, VC1, VM1, h1, h2, hr1⟩ := hop VC VM hrel
  refine lv_aload_n hx hb dL_law_925 rfl (lv_at hl 1 rfl) ?_
  refine lcI S hK1 (xs_C G1 ks) hXs hge1 hd.1 hd.2.2 hl.1 lw_kw_L_116 (by decide) cC24 rfl (c_X3_wipe l G1 ks hJ1 h1) ⟨Nat.le_of_ble_eq_true rfl, Nat.le_of_ble_eq_true rfl⟩ rfl (rest := []) rfl (Nat.le_of_ble_eq_true rfl) dL_law_926 ⟨Nat.le_of_ble_eq_true rfl, Nat.le_of_ble_eq_true rfl⟩ (fun H1 locs1 hQ hk1 hS1 => ?_)
  replace hd : LwD s G1 G2 VC1 VM H1 locs1 := ⟨hQ, gW_keep hd.2.1 hk1 (fun i j hi hj h => hdis j i hj hi h.symm), hS1⟩
  clear hQ hk1 hS1
  refine lv_aload_n hx hb dL_law_929 rfl (lv_at hl 2 rfl) ?_
  refine lcI S hK2 (xs_M G2) trivial hge2 hd.2.1 hd.2.2 hl.1 lw_kw_L_120 (by decide) cM0 rfl (c_X4_wipe l G2 hJ2 h2) ⟨Nat.le_of_ble_eq_true rfl, Nat.le_of_ble_eq_true rfl⟩ rfl (rest := [.int _]) rfl (Nat.le_of_ble_eq_true rfl) dL_law_930 ⟨Nat.le_of_ble_eq_true rfl, Nat.le_of_ble_eq_true rfl⟩ (fun H1 locs1 hQ hk1 hS1 => ?_)
  replace hd : LwD s G1 G2 VC1 VM1 H1 locs1 := ⟨gW_keep hd.1 hk1 hdis, hQ, hS1⟩
  clear hQ hk1 hS1
  refine lv_icmp_eq (tgt := 1305) hx hb dL_law_933 (by decide) (fun _ => ?_) (fun hc => absurd rfl hc)
  exact kk VC1 VM1 _ _ _ hr1 hd hl
set_option maxRecDepth 100000 in
set_option maxHeartbeats 4000000 in
theorem law_moor {p : Program} {l : Launch} {e : Env} {s : State} {m : MethodId} {below : List Frame} {meth : Method} {c : Code} {b L : Nat} {xs : Nat → Int32} {G1 G2 : Gd} {ks : Ks} {H : Heap} {locs : List Loc} {ls : Array Slot} {VC VM : VV} {x3 : Int32} {Q : State → Prop} {Rel : VV → VV → Prop} (hop : Op0 Rel f_X3_moor f_X4_moor) (C : LwC p s m c b L xs G1 G2 ks) (hrel : Rel VC VM) (hd : LwD s G1 G2 VC VM H locs) (hl : lv_has ls 4 [(0, .ref b), (1, .ref (G1.2.2 24)), (2, .ref (G2.2.2 0)), (3, .int x3)]) (hin : ∀ j : Nat, j < 6 → vp_in (x3 + nI j) L)
    (kk : ∀ (VC VM : VV) (H : Heap) (locs : List Loc) (ls : Array Slot), Rel VC VM → LwD s G1 G2 VC VM H locs → lv_has ls 4 [(0, .ref b), (1, .ref (G1.2.2 24)), (2, .ref (G2.2.2 0)), (3, .int x3)] → W p l e room_1 s m #[Value.ref b] below meth c H locs 48 1111 Q (F0 m 1305 ls [])) : W p l e room_1 s m #[Value.ref b] below meth c H locs 48 1111 Q (F0 m 938 ls []) := by
  obtain ⟨S, hX, hbl, hK1, hK2, hJ1, hJ2, hXs, hge1, hge2, hdis⟩ := C
  obtain ⟨hx, hb, hml, hown, hts⟩ := id S
  have hbA : ¬ lwA s b := Nat.not_le.mpr hbl
  obtain ⟨r, VC1, VM1, h1, h2, hr1⟩ := hop VC VM hrel
  refine lv_aload_n hx hb dL_law_938 rfl (lv_at hl 1 rfl) ?_
  refine lcI S hK1 (xs_C G1 ks) hXs hge1 hd.1 hd.2.2 hl.1 lw_kw_L_121 (by decide) cC24 rfl (c_X3_moor l G1 ks hJ1 h1) ⟨Nat.le_of_ble_eq_true rfl, Nat.le_of_ble_eq_true rfl⟩ rfl (rest := []) rfl (Nat.le_of_ble_eq_true rfl) dL_law_939 ⟨Nat.le_of_ble_eq_true rfl, Nat.le_of_ble_eq_true rfl⟩ (fun H1 locs1 hQ hk1 hS1 => ?_)
  replace hd : LwD s G1 G2 VC1 VM H1 locs1 := ⟨hQ, gW_keep hd.2.1 hk1 (fun i j hi hj h => hdis j i hj hi h.symm), hS1⟩
  clear hQ hk1 hS1
  refine lv_aload_n hx hb dL_law_942 rfl (lv_at hl 2 rfl) ?_
  refine lcI S hK2 (xs_M G2) trivial hge2 hd.2.1 hd.2.2 hl.1 lw_kw_L_124 (by decide) cM0 rfl (c_X4_moor l G2 hJ2 h2) ⟨Nat.le_of_ble_eq_true rfl, Nat.le_of_ble_eq_true rfl⟩ rfl (rest := [.int _]) rfl (Nat.le_of_ble_eq_true rfl) dL_law_943 ⟨Nat.le_of_ble_eq_true rfl, Nat.le_of_ble_eq_true rfl⟩ (fun H1 locs1 hQ hk1 hS1 => ?_)
  replace hd : LwD s G1 G2 VC1 VM1 H1 locs1 := ⟨gW_keep hd.1 hk1 hdis, hQ, hS1⟩
  clear hQ hk1 hS1
  refine lv_icmp_eq (tgt := 1305) hx hb dL_law_946 (by decide) (fun _ => ?_) (fun hc => absurd rfl hc)
  exact kk VC1 VM1 _ _ _ hr1 hd hl
set_option maxRecDepth 100000 in
set_option maxHeartbeats 4000000 in
theorem law_sheet {p : Program} {l : Launch} {e : Env} {s : State} {m : MethodId} {below : List Frame} {meth : Method} {c : Code} {b L : Nat} {xs : Nat → Int32} {G1 G2 : Gd} {ks : Ks} {H : Heap} {locs : List Loc} {ls : Array Slot} {VC VM : VV} {x3 : Int32} {Q : State → Prop} {Rel : VV → VV → Prop} (hop : Op3 Rel f_X3_sheet f_X4_sheet) (C : LwC p s m c b L xs G1 G2 ks) (hrel : Rel VC VM) (hd : LwD s G1 G2 VC VM H locs) (hl : lv_has ls 4 [(0, .ref b), (1, .ref (G1.2.2 24)), (2, .ref (G2.2.2 0)), (3, .int x3)]) (hin : ∀ j : Nat, j < 6 → vp_in (x3 + nI j) L)
    (kk : ∀ (VC VM : VV) (H : Heap) (locs : List Loc) (ls : Array Slot), Rel VC VM → LwD s G1 G2 VC VM H locs → lv_has ls 4 [(0, .ref b), (1, .ref (G1.2.2 24)), (2, .ref (G2.2.2 0)), (3, .int x3)] → W p l e room_1 s m #[Value.ref b] below meth c H locs 48 1111 Q (F0 m 1305 ls [])) : W p l e room_1 s m #[Value.ref b] below meth c H locs 48 1111 Q (F0 m 951 ls []) := by
  obtain ⟨S, hX, hbl, hK1, hK2, hJ1, hJ2, hXs, hge1, hge2, hdis⟩ := C
  obtain ⟨hx, hb, hml, hown, hts⟩ := id S
  have hbA : ¬ lwA s b := Nat.not_le.mpr hbl
  obtain ⟨r, VC1, VM1, h1, h2, hr1⟩ := hop VC VM hrel (xs (x3 + 1).toNatClampNeg) (xs (x3 + 2).toNatClampNeg) (xs (x3 + 3).toNatClampNeg)
  refine lv_aload_n hx hb dL_law_951 rfl (lv_at hl 1 rfl) ?_
  refine lv_aload_n hx hb dL_law_952 rfl (lv_at hl 0 rfl) ?_
  refine lv_iload_n hx hb dL_law_953 rfl (lv_at hl 3 rfl) ?_
  refine lv_iconst (v := 1) hx hb dL_law_954 (by decide) ?_
  refine lv_iadd hx hb dL_law_955 ?_
  refine va_sld hx hb hX hbl hbA hd.2.2 (hin 1 (by decide)) dL_law_956 ?_
  refine lv_aload_n hx hb dL_law_957 rfl (lv_at hl 0 rfl) ?_
  refine lv_iload_n hx hb dL_law_958 rfl (lv_at hl 3 rfl) ?_
  refine lv_iconst (v := 2) hx hb dL_law_959 (by decide) ?_
  refine lv_iadd hx hb dL_law_960 ?_
  refine va_sld hx hb hX hbl hbA hd.2.2 (hin 2 (by decide)) dL_law_961 ?_
  refine lv_aload_n hx hb dL_law_962 rfl (lv_at hl 0 rfl) ?_
  refine lv_iload_n hx hb dL_law_963 rfl (lv_at hl 3 rfl) ?_
  refine lv_iconst (v := 3) hx hb dL_law_964 (by decide) ?_
  refine lv_iadd hx hb dL_law_965 ?_
  refine va_sld hx hb hX hbl hbA hd.2.2 (hin 3 (by decide)) dL_law_966 ?_
  refine lcI S hK1 (xs_C G1 ks) hXs hge1 hd.1 hd.2.2 hl.1 lw_kw_L_125 (by decide) cC24 rfl (c_X3_sheet l G1 ks hJ1 h1) ⟨Nat.le_of_ble_eq_true rfl, Nat.le_of_ble_eq_true rfl⟩ rfl (rest := []) rfl (Nat.le_of_ble_eq_true rfl) dL_law_967 ⟨Nat.le_of_ble_eq_true rfl, Nat.le_of_ble_eq_true rfl⟩ (fun H1 locs1 hQ hk1 hS1 => ?_)
  replace hd : LwD s G1 G2 VC1 VM H1 locs1 := ⟨hQ, gW_keep hd.2.1 hk1 (fun i j hi hj h => hdis j i hj hi h.symm), hS1⟩
  clear hQ hk1 hS1
  refine lv_aload_n hx hb dL_law_970 rfl (lv_at hl 2 rfl) ?_
  refine lv_aload_n hx hb dL_law_971 rfl (lv_at hl 0 rfl) ?_
  refine lv_iload_n hx hb dL_law_972 rfl (lv_at hl 3 rfl) ?_
  refine lv_iconst (v := 1) hx hb dL_law_973 (by decide) ?_
  refine lv_iadd hx hb dL_law_974 ?_
  refine va_sld hx hb hX hbl hbA hd.2.2 (hin 1 (by decide)) dL_law_975 ?_
  refine lv_aload_n hx hb dL_law_976 rfl (lv_at hl 0 rfl) ?_
  refine lv_iload_n hx hb dL_law_977 rfl (lv_at hl 3 rfl) ?_
  refine lv_iconst (v := 2) hx hb dL_law_978 (by decide) ?_
  refine lv_iadd hx hb dL_law_979 ?_
  refine va_sld hx hb hX hbl hbA hd.2.2 (hin 2 (by decide)) dL_law_980 ?_
  refine lv_aload_n hx hb dL_law_981 rfl (lv_at hl 0 rfl) ?_
  refine lv_iload_n hx hb dL_law_982 rfl (lv_at hl 3 rfl) ?_
  refine lv_iconst (v := 3) hx hb dL_law_983 (by decide) ?_
  refine lv_iadd hx hb dL_law_984 ?_
  refine va_sld hx hb hX hbl hbA hd.2.2 (hin 3 (by decide)) dL_law_985 ?_
  refine lcI S hK2 (xs_M G2) trivial hge2 hd.2.1 hd.2.2 hl.1 lw_kw_L_128 (by decide) cM0 rfl (c_X4_sheet l G2 hJ2 h2) ⟨Nat.le_of_ble_eq_true rfl, Nat.le_of_ble_eq_true rfl⟩ rfl (rest := [.int _]) rfl (Nat.le_of_ble_eq_true rfl) dL_law_986 ⟨Nat.le_of_ble_eq_true rfl, Nat.le_of_ble_eq_true rfl⟩ (fun H1 locs1 hQ hk1 hS1 => ?_)
  replace hd : LwD s G1 G2 VC1 VM1 H1 locs1 := ⟨gW_keep hd.1 hk1 hdis, hQ, hS1⟩
  clear hQ hk1 hS1
  refine lv_icmp_eq (tgt := 1305) hx hb dL_law_989 (by decide) (fun _ => ?_) (fun hc => absurd rfl hc)
  exact kk VC1 VM1 _ _ _ hr1 hd hl
set_option maxRecDepth 100000 in
set_option maxHeartbeats 4000000 in
theorem law_write {p : Program} {l : Launch} {e : Env} {s : State} {m : MethodId} {below : List Frame} {meth : Method} {c : Code} {b L : Nat} {xs : Nat → Int32} {G1 G2 : Gd} {ks : Ks} {H : Heap} {locs : List Loc} {ls : Array Slot} {VC VM : VV} {x3 : Int32} {Q : State → Prop} {Rel : VV → VV → Prop} (hop : OpW Rel f_X3_write f_X4_write) (C : LwC p s m c b L xs G1 G2 ks) (hrel : Rel VC VM) (hd : LwD s G1 G2 VC VM H locs) (hl : lv_has ls 4 [(0, .ref b), (1, .ref (G1.2.2 24)), (2, .ref (G2.2.2 0)), (3, .int x3)]) (hin : ∀ j : Nat, j < 6 → vp_in (x3 + nI j) L)
    (kk : ∀ (VC VM : VV) (H : Heap) (locs : List Loc) (ls : Array Slot), Rel VC VM → LwD s G1 G2 VC VM H locs → lv_has ls 4 [(0, .ref b), (1, .ref (G1.2.2 24)), (2, .ref (G2.2.2 0)), (3, .int x3)] → W p l e room_1 s m #[Value.ref b] below meth c H locs 48 1111 Q (F0 m 1305 ls [])) : W p l e room_1 s m #[Value.ref b] below meth c H locs 48 1111 Q (F0 m 994 ls []) := by
  obtain ⟨S, hX, hbl, hK1, hK2, hJ1, hJ2, hXs, hge1, hge2, hdis⟩ := C
  obtain ⟨hx, hb, hml, hown, hts⟩ := id S
  have hbA : ¬ lwA s b := Nat.not_le.mpr hbl
  obtain ⟨r, VC1, VM1, h1, h2, hr1⟩ := hop VC VM hrel (xs (x3 + 1).toNatClampNeg) (xs (x3 + 2).toNatClampNeg) ((((xs (x3 + 3).toNatClampNeg)).toInt64 <<< ((32 : Int32).toInt64 &&& 63)) ||| (((xs (x3 + 4).toNatClampNeg)).toInt64 &&& 4294967295))
  refine lv_aload_n hx hb dL_law_994 rfl (lv_at hl 1 rfl) ?_
  refine lv_aload_n hx hb dL_law_995 rfl (lv_at hl 0 rfl) ?_
  refine lv_iload_n hx hb dL_law_996 rfl (lv_at hl 3 rfl) ?_
  refine lv_iconst (v := 1) hx hb dL_law_997 (by decide) ?_
  refine lv_iadd hx hb dL_law_998 ?_
  refine va_sld hx hb hX hbl hbA hd.2.2 (hin 1 (by decide)) dL_law_999 ?_
  refine lv_aload_n hx hb dL_law_1000 rfl (lv_at hl 0 rfl) ?_
  refine lv_iload_n hx hb dL_law_1001 rfl (lv_at hl 3 rfl) ?_
  refine lv_iconst (v := 2) hx hb dL_law_1002 (by decide) ?_
  refine lv_iadd hx hb dL_law_1003 ?_
  refine va_sld hx hb hX hbl hbA hd.2.2 (hin 2 (by decide)) dL_law_1004 ?_
  refine lv_aload_n hx hb dL_law_1005 rfl (lv_at hl 0 rfl) ?_
  refine lv_iload_n hx hb dL_law_1006 rfl (lv_at hl 3 rfl) ?_
  refine lv_iconst (v := 3) hx hb dL_law_1007 (by decide) ?_
  refine lv_iadd hx hb dL_law_1008 ?_
  refine va_sld hx hb hX hbl hbA hd.2.2 (hin 3 (by decide)) dL_law_1009 ?_
  refine lv_i2l hx hb dL_law_1010 rfl ?_
  refine lv_bipush (v := 32) hx hb dL_law_1011 (by decide) ?_
  refine lv_lshl hx hb dL_law_1013 rfl ?_
  refine lv_aload_n hx hb dL_law_1014 rfl (lv_at hl 0 rfl) ?_
  refine lv_iload_n hx hb dL_law_1015 rfl (lv_at hl 3 rfl) ?_
  refine lv_iconst (v := 4) hx hb dL_law_1016 (by decide) ?_
  refine lv_iadd hx hb dL_law_1017 ?_
  refine va_sld hx hb hX hbl hbA hd.2.2 (hin 4 (by decide)) dL_law_1018 ?_
  refine lv_i2l hx hb dL_law_1019 rfl ?_
  refine lv_ldc2 hx hb hown (hts _ lw_tw1167) dL_law_1020 ?_
  refine lv_land hx hb dL_law_1023 ?_
  refine lv_lor hx hb dL_law_1024 ?_
  refine lcJ S hK1 (xs_C G1 ks) hXs hge1 hd.1 hd.2.2 hl.1 lw_kw_L_131 (by decide) cC24 rfl (c_X3_write l G1 ks hJ1 h1) ⟨Nat.le_of_ble_eq_true rfl, Nat.le_of_ble_eq_true rfl⟩ rfl (rest := []) rfl (Nat.le_of_ble_eq_true rfl) dL_law_1025 ⟨Nat.le_of_ble_eq_true rfl, Nat.le_of_ble_eq_true rfl⟩ (fun H1 locs1 hQ hk1 hS1 => ?_)
  replace hd : LwD s G1 G2 VC1 VM H1 locs1 := ⟨hQ, gW_keep hd.2.1 hk1 (fun i j hi hj h => hdis j i hj hi h.symm), hS1⟩
  clear hQ hk1 hS1
  refine lv_aload_n hx hb dL_law_1028 rfl (lv_at hl 2 rfl) ?_
  refine lv_aload_n hx hb dL_law_1029 rfl (lv_at hl 0 rfl) ?_
  refine lv_iload_n hx hb dL_law_1030 rfl (lv_at hl 3 rfl) ?_
  refine lv_iconst (v := 1) hx hb dL_law_1031 (by decide) ?_
  refine lv_iadd hx hb dL_law_1032 ?_
  refine va_sld hx hb hX hbl hbA hd.2.2 (hin 1 (by decide)) dL_law_1033 ?_
  refine lv_aload_n hx hb dL_law_1034 rfl (lv_at hl 0 rfl) ?_
  refine lv_iload_n hx hb dL_law_1035 rfl (lv_at hl 3 rfl) ?_
  refine lv_iconst (v := 2) hx hb dL_law_1036 (by decide) ?_
  refine lv_iadd hx hb dL_law_1037 ?_
  refine va_sld hx hb hX hbl hbA hd.2.2 (hin 2 (by decide)) dL_law_1038 ?_
  refine lv_aload_n hx hb dL_law_1039 rfl (lv_at hl 0 rfl) ?_
  refine lv_iload_n hx hb dL_law_1040 rfl (lv_at hl 3 rfl) ?_
  refine lv_iconst (v := 3) hx hb dL_law_1041 (by decide) ?_
  refine lv_iadd hx hb dL_law_1042 ?_
  refine va_sld hx hb hX hbl hbA hd.2.2 (hin 3 (by decide)) dL_law_1043 ?_
  refine lv_i2l hx hb dL_law_1044 rfl ?_
  refine lv_bipush (v := 32) hx hb dL_law_1045 (by decide) ?_
  refine lv_lshl hx hb dL_law_1047 rfl ?_
  refine lv_aload_n hx hb dL_law_1048 rfl (lv_at hl 0 rfl) ?_
  refine lv_iload_n hx hb dL_law_1049 rfl (lv_at hl 3 rfl) ?_
  refine lv_iconst (v := 4) hx hb dL_law_1050 (by decide) ?_
  refine lv_iadd hx hb dL_law_1051 ?_
  refine va_sld hx hb hX hbl hbA hd.2.2 (hin 4 (by decide)) dL_law_1052 ?_
  refine lv_i2l hx hb dL_law_1053 rfl ?_
  refine lv_ldc2 hx hb hown (hts _ lw_tw1167) dL_law_1054 ?_
  refine lv_land hx hb dL_law_1057 ?_
  refine lv_lor hx hb dL_law_1058 ?_
  refine lcJ S hK2 (xs_M G2) trivial hge2 hd.2.1 hd.2.2 hl.1 lw_kw_L_135 (by decide) cM0 rfl (c_X4_write l G2 hJ2 h2) ⟨Nat.le_of_ble_eq_true rfl, Nat.le_of_ble_eq_true rfl⟩ rfl (rest := [.long _]) rfl (Nat.le_of_ble_eq_true rfl) dL_law_1059 ⟨Nat.le_of_ble_eq_true rfl, Nat.le_of_ble_eq_true rfl⟩ (fun H1 locs1 hQ hk1 hS1 => ?_)
  replace hd : LwD s G1 G2 VC1 VM1 H1 locs1 := ⟨gW_keep hd.1 hk1 hdis, hQ, hS1⟩
  clear hQ hk1 hS1
  refine W.lcmp hx hb dL_law_1062 ?_
  refine lv_if_eq (tgt := 1305) hx hb dL_law_1063 (by decide) (fun _ => ?_) (fun hc => absurd (lcmp_self _) hc)
  exact kk VC1 VM1 _ _ _ hr1 hd hl
set_option maxRecDepth 100000 in
set_option maxHeartbeats 4000000 in
theorem law_copy {p : Program} {l : Launch} {e : Env} {s : State} {m : MethodId} {below : List Frame} {meth : Method} {c : Code} {b L : Nat} {xs : Nat → Int32} {G1 G2 : Gd} {ks : Ks} {H : Heap} {locs : List Loc} {ls : Array Slot} {VC VM : VV} {x3 : Int32} {Q : State → Prop} {Rel : VV → VV → Prop} (hop : Op5 Rel f_X3_copy f_X4_copy) (C : LwC p s m c b L xs G1 G2 ks) (hrel : Rel VC VM) (hd : LwD s G1 G2 VC VM H locs) (hl : lv_has ls 4 [(0, .ref b), (1, .ref (G1.2.2 24)), (2, .ref (G2.2.2 0)), (3, .int x3)]) (hin : ∀ j : Nat, j < 6 → vp_in (x3 + nI j) L)
    (kk : ∀ (VC VM : VV) (H : Heap) (locs : List Loc) (ls : Array Slot), Rel VC VM → LwD s G1 G2 VC VM H locs → lv_has ls 4 [(0, .ref b), (1, .ref (G1.2.2 24)), (2, .ref (G2.2.2 0)), (3, .int x3)] → W p l e room_1 s m #[Value.ref b] below meth c H locs 48 1111 Q (F0 m 1305 ls [])) : W p l e room_1 s m #[Value.ref b] below meth c H locs 48 1111 Q (F0 m 1068 ls []) := by
  obtain ⟨S, hX, hbl, hK1, hK2, hJ1, hJ2, hXs, hge1, hge2, hdis⟩ := C
  obtain ⟨hx, hb, hml, hown, hts⟩ := id S
  have hbA : ¬ lwA s b := Nat.not_le.mpr hbl
  obtain ⟨r, VC1, VM1, h1, h2, hr1⟩ := hop VC VM hrel (xs (x3 + 1).toNatClampNeg) (xs (x3 + 2).toNatClampNeg) (xs (x3 + 3).toNatClampNeg) (xs (x3 + 4).toNatClampNeg) (xs (x3 + 5).toNatClampNeg)
  refine lv_aload_n hx hb dL_law_1068 rfl (lv_at hl 1 rfl) ?_
  refine lv_aload_n hx hb dL_law_1069 rfl (lv_at hl 0 rfl) ?_
  refine lv_iload_n hx hb dL_law_1070 rfl (lv_at hl 3 rfl) ?_
  refine lv_iconst (v := 1) hx hb dL_law_1071 (by decide) ?_
  refine lv_iadd hx hb dL_law_1072 ?_
  refine va_sld hx hb hX hbl hbA hd.2.2 (hin 1 (by decide)) dL_law_1073 ?_
  refine lv_aload_n hx hb dL_law_1074 rfl (lv_at hl 0 rfl) ?_
  refine lv_iload_n hx hb dL_law_1075 rfl (lv_at hl 3 rfl) ?_
  refine lv_iconst (v := 2) hx hb dL_law_1076 (by decide) ?_
  refine lv_iadd hx hb dL_law_1077 ?_
  refine va_sld hx hb hX hbl hbA hd.2.2 (hin 2 (by decide)) dL_law_1078 ?_
  refine lv_aload_n hx hb dL_law_1079 rfl (lv_at hl 0 rfl) ?_
  refine lv_iload_n hx hb dL_law_1080 rfl (lv_at hl 3 rfl) ?_
  refine lv_iconst (v := 3) hx hb dL_law_1081 (by decide) ?_
  refine lv_iadd hx hb dL_law_1082 ?_
  refine va_sld hx hb hX hbl hbA hd.2.2 (hin 3 (by decide)) dL_law_1083 ?_
  refine lv_aload_n hx hb dL_law_1084 rfl (lv_at hl 0 rfl) ?_
  refine lv_iload_n hx hb dL_law_1085 rfl (lv_at hl 3 rfl) ?_
  refine lv_iconst (v := 4) hx hb dL_law_1086 (by decide) ?_
  refine lv_iadd hx hb dL_law_1087 ?_
  refine va_sld hx hb hX hbl hbA hd.2.2 (hin 4 (by decide)) dL_law_1088 ?_
  refine lv_aload_n hx hb dL_law_1089 rfl (lv_at hl 0 rfl) ?_
  refine lv_iload_n hx hb dL_law_1090 rfl (lv_at hl 3 rfl) ?_
  refine lv_iconst (v := 5) hx hb dL_law_1091 (by decide) ?_
  refine lv_iadd hx hb dL_law_1092 ?_
  refine va_sld hx hb hX hbl hbA hd.2.2 (hin 5 (by decide)) dL_law_1093 ?_
  refine lcI S hK1 (xs_C G1 ks) hXs hge1 hd.1 hd.2.2 hl.1 lw_kw_L_136 (by decide) cC24 rfl (c_X3_copy l G1 ks hJ1 h1) ⟨Nat.le_of_ble_eq_true rfl, Nat.le_of_ble_eq_true rfl⟩ rfl (rest := []) rfl (Nat.le_of_ble_eq_true rfl) dL_law_1094 ⟨Nat.le_of_ble_eq_true rfl, Nat.le_of_ble_eq_true rfl⟩ (fun H1 locs1 hQ hk1 hS1 => ?_)
  replace hd : LwD s G1 G2 VC1 VM H1 locs1 := ⟨hQ, gW_keep hd.2.1 hk1 (fun i j hi hj h => hdis j i hj hi h.symm), hS1⟩
  clear hQ hk1 hS1
  refine lv_aload_n hx hb dL_law_1097 rfl (lv_at hl 2 rfl) ?_
  refine lv_aload_n hx hb dL_law_1098 rfl (lv_at hl 0 rfl) ?_
  refine lv_iload_n hx hb dL_law_1099 rfl (lv_at hl 3 rfl) ?_
  refine lv_iconst (v := 1) hx hb dL_law_1100 (by decide) ?_
  refine lv_iadd hx hb dL_law_1101 ?_
  refine va_sld hx hb hX hbl hbA hd.2.2 (hin 1 (by decide)) dL_law_1102 ?_
  refine lv_aload_n hx hb dL_law_1103 rfl (lv_at hl 0 rfl) ?_
  refine lv_iload_n hx hb dL_law_1104 rfl (lv_at hl 3 rfl) ?_
  refine lv_iconst (v := 2) hx hb dL_law_1105 (by decide) ?_
  refine lv_iadd hx hb dL_law_1106 ?_
  refine va_sld hx hb hX hbl hbA hd.2.2 (hin 2 (by decide)) dL_law_1107 ?_
  refine lv_aload_n hx hb dL_law_1108 rfl (lv_at hl 0 rfl) ?_
  refine lv_iload_n hx hb dL_law_1109 rfl (lv_at hl 3 rfl) ?_
  refine lv_iconst (v := 3) hx hb dL_law_1110 (by decide) ?_
  refine lv_iadd hx hb dL_law_1111 ?_
  refine va_sld hx hb hX hbl hbA hd.2.2 (hin 3 (by decide)) dL_law_1112 ?_
  refine lv_aload_n hx hb dL_law_1113 rfl (lv_at hl 0 rfl) ?_
  refine lv_iload_n hx hb dL_law_1114 rfl (lv_at hl 3 rfl) ?_
  refine lv_iconst (v := 4) hx hb dL_law_1115 (by decide) ?_
  refine lv_iadd hx hb dL_law_1116 ?_
  refine va_sld hx hb hX hbl hbA hd.2.2 (hin 4 (by decide)) dL_law_1117 ?_
  refine lv_aload_n hx hb dL_law_1118 rfl (lv_at hl 0 rfl) ?_
  refine lv_iload_n hx hb dL_law_1119 rfl (lv_at hl 3 rfl) ?_
  refine lv_iconst (v := 5) hx hb dL_law_1120 (by decide) ?_
  refine lv_iadd hx hb dL_law_1121 ?_
  refine va_sld hx hb hX hbl hbA hd.2.2 (hin 5 (by decide)) dL_law_1122 ?_
  refine lcI S hK2 (xs_M G2) trivial hge2 hd.2.1 hd.2.2 hl.1 lw_kw_L_140 (by decide) cM0 rfl (c_X4_copy l G2 hJ2 h2) ⟨Nat.le_of_ble_eq_true rfl, Nat.le_of_ble_eq_true rfl⟩ rfl (rest := [.int _]) rfl (Nat.le_of_ble_eq_true rfl) dL_law_1123 ⟨Nat.le_of_ble_eq_true rfl, Nat.le_of_ble_eq_true rfl⟩ (fun H1 locs1 hQ hk1 hS1 => ?_)
  replace hd : LwD s G1 G2 VC1 VM1 H1 locs1 := ⟨gW_keep hd.1 hk1 hdis, hQ, hS1⟩
  clear hQ hk1 hS1
  refine lv_icmp_eq (tgt := 1305) hx hb dL_law_1126 (by decide) (fun _ => ?_) (fun hc => absurd rfl hc)
  exact kk VC1 VM1 _ _ _ hr1 hd hl
set_option maxRecDepth 100000 in
set_option maxHeartbeats 4000000 in
theorem law_lays {p : Program} {l : Launch} {e : Env} {s : State} {m : MethodId} {below : List Frame} {meth : Method} {c : Code} {b L : Nat} {xs : Nat → Int32} {G1 G2 : Gd} {ks : Ks} {H : Heap} {locs : List Loc} {ls : Array Slot} {VC VM : VV} {x3 : Int32} {Q : State → Prop} {Rel : VV → VV → Prop} (hop : Op1 Rel f_X3_lays f_X4_lays) (C : LwC p s m c b L xs G1 G2 ks) (hrel : Rel VC VM) (hd : LwD s G1 G2 VC VM H locs) (hl : lv_has ls 4 [(0, .ref b), (1, .ref (G1.2.2 24)), (2, .ref (G2.2.2 0)), (3, .int x3)]) (hin : ∀ j : Nat, j < 6 → vp_in (x3 + nI j) L)
    (kk : ∀ (VC VM : VV) (H : Heap) (locs : List Loc) (ls : Array Slot), Rel VC VM → LwD s G1 G2 VC VM H locs → lv_has ls 4 [(0, .ref b), (1, .ref (G1.2.2 24)), (2, .ref (G2.2.2 0)), (3, .int x3)] → W p l e room_1 s m #[Value.ref b] below meth c H locs 48 1111 Q (F0 m 1305 ls [])) : W p l e room_1 s m #[Value.ref b] below meth c H locs 48 1111 Q (F0 m 1131 ls []) := by
  obtain ⟨S, hX, hbl, hK1, hK2, hJ1, hJ2, hXs, hge1, hge2, hdis⟩ := C
  obtain ⟨hx, hb, hml, hown, hts⟩ := id S
  have hbA : ¬ lwA s b := Nat.not_le.mpr hbl
  obtain ⟨r, VC1, VM1, h1, h2, hr1⟩ := hop VC VM hrel (xs (x3 + 1).toNatClampNeg)
  refine lv_aload_n hx hb dL_law_1131 rfl (lv_at hl 1 rfl) ?_
  refine lv_aload_n hx hb dL_law_1132 rfl (lv_at hl 0 rfl) ?_
  refine lv_iload_n hx hb dL_law_1133 rfl (lv_at hl 3 rfl) ?_
  refine lv_iconst (v := 1) hx hb dL_law_1134 (by decide) ?_
  refine lv_iadd hx hb dL_law_1135 ?_
  refine va_sld hx hb hX hbl hbA hd.2.2 (hin 1 (by decide)) dL_law_1136 ?_
  refine lcI S hK1 (xs_C G1 ks) hXs hge1 hd.1 hd.2.2 hl.1 lw_kw_L_141 (by decide) cC24 rfl (c_X3_lays l G1 ks hJ1 h1) ⟨Nat.le_of_ble_eq_true rfl, Nat.le_of_ble_eq_true rfl⟩ rfl (rest := []) rfl (Nat.le_of_ble_eq_true rfl) dL_law_1137 ⟨Nat.le_of_ble_eq_true rfl, Nat.le_of_ble_eq_true rfl⟩ (fun H1 locs1 hQ hk1 hS1 => ?_)
  replace hd : LwD s G1 G2 VC1 VM H1 locs1 := ⟨hQ, gW_keep hd.2.1 hk1 (fun i j hi hj h => hdis j i hj hi h.symm), hS1⟩
  clear hQ hk1 hS1
  refine lv_aload_n hx hb dL_law_1140 rfl (lv_at hl 2 rfl) ?_
  refine lv_aload_n hx hb dL_law_1141 rfl (lv_at hl 0 rfl) ?_
  refine lv_iload_n hx hb dL_law_1142 rfl (lv_at hl 3 rfl) ?_
  refine lv_iconst (v := 1) hx hb dL_law_1143 (by decide) ?_
  refine lv_iadd hx hb dL_law_1144 ?_
  refine va_sld hx hb hX hbl hbA hd.2.2 (hin 1 (by decide)) dL_law_1145 ?_
  refine lcI S hK2 (xs_M G2) trivial hge2 hd.2.1 hd.2.2 hl.1 lw_kw_L_144 (by decide) cM0 rfl (c_X4_lays l G2 hJ2 h2) ⟨Nat.le_of_ble_eq_true rfl, Nat.le_of_ble_eq_true rfl⟩ rfl (rest := [.int _]) rfl (Nat.le_of_ble_eq_true rfl) dL_law_1146 ⟨Nat.le_of_ble_eq_true rfl, Nat.le_of_ble_eq_true rfl⟩ (fun H1 locs1 hQ hk1 hS1 => ?_)
  replace hd : LwD s G1 G2 VC1 VM1 H1 locs1 := ⟨gW_keep hd.1 hk1 hdis, hQ, hS1⟩
  clear hQ hk1 hS1
  refine lv_icmp_eq (tgt := 1305) hx hb dL_law_1149 (by decide) (fun _ => ?_) (fun hc => absurd rfl hc)
  exact kk VC1 VM1 _ _ _ hr1 hd hl
set_option maxRecDepth 100000 in
set_option maxHeartbeats 4000000 in
theorem law_book {p : Program} {l : Launch} {e : Env} {s : State} {m : MethodId} {below : List Frame} {meth : Method} {c : Code} {b L : Nat} {xs : Nat → Int32} {G1 G2 : Gd} {ks : Ks} {H : Heap} {locs : List Loc} {ls : Array Slot} {VC VM : VV} {x3 : Int32} {Q : State → Prop} {Rel : VV → VV → Prop} (hop : Op2 Rel f_X3_book f_X4_book) (C : LwC p s m c b L xs G1 G2 ks) (hrel : Rel VC VM) (hd : LwD s G1 G2 VC VM H locs) (hl : lv_has ls 4 [(0, .ref b), (1, .ref (G1.2.2 24)), (2, .ref (G2.2.2 0)), (3, .int x3)]) (hin : ∀ j : Nat, j < 6 → vp_in (x3 + nI j) L)
    (kk : ∀ (VC VM : VV) (H : Heap) (locs : List Loc) (ls : Array Slot), Rel VC VM → LwD s G1 G2 VC VM H locs → lv_has ls 4 [(0, .ref b), (1, .ref (G1.2.2 24)), (2, .ref (G2.2.2 0)), (3, .int x3)] → W p l e room_1 s m #[Value.ref b] below meth c H locs 48 1111 Q (F0 m 1305 ls [])) : W p l e room_1 s m #[Value.ref b] below meth c H locs 48 1111 Q (F0 m 1154 ls []) := by
  obtain ⟨S, hX, hbl, hK1, hK2, hJ1, hJ2, hXs, hge1, hge2, hdis⟩ := C
  obtain ⟨hx, hb, hml, hown, hts⟩ := id S
  have hbA : ¬ lwA s b := Nat.not_le.mpr hbl
  obtain ⟨r, VC1, VM1, h1, h2, hr1⟩ := hop VC VM hrel (xs (x3 + 1).toNatClampNeg) (xs (x3 + 2).toNatClampNeg)
  refine lv_aload_n hx hb dL_law_1154 rfl (lv_at hl 1 rfl) ?_
  refine lv_aload_n hx hb dL_law_1155 rfl (lv_at hl 0 rfl) ?_
  refine lv_iload_n hx hb dL_law_1156 rfl (lv_at hl 3 rfl) ?_
  refine lv_iconst (v := 1) hx hb dL_law_1157 (by decide) ?_
  refine lv_iadd hx hb dL_law_1158 ?_
  refine va_sld hx hb hX hbl hbA hd.2.2 (hin 1 (by decide)) dL_law_1159 ?_
  refine lv_aload_n hx hb dL_law_1160 rfl (lv_at hl 0 rfl) ?_
  refine lv_iload_n hx hb dL_law_1161 rfl (lv_at hl 3 rfl) ?_
  refine lv_iconst (v := 2) hx hb dL_law_1162 (by decide) ?_
  refine lv_iadd hx hb dL_law_1163 ?_
  refine va_sld hx hb hX hbl hbA hd.2.2 (hin 2 (by decide)) dL_law_1164 ?_
  refine lcI S hK1 (xs_C G1 ks) hXs hge1 hd.1 hd.2.2 hl.1 lw_kw_L_145 (by decide) cC24 rfl (c_X3_book l G1 ks hJ1 h1) ⟨Nat.le_of_ble_eq_true rfl, Nat.le_of_ble_eq_true rfl⟩ rfl (rest := []) rfl (Nat.le_of_ble_eq_true rfl) dL_law_1165 ⟨Nat.le_of_ble_eq_true rfl, Nat.le_of_ble_eq_true rfl⟩ (fun H1 locs1 hQ hk1 hS1 => ?_)
  replace hd : LwD s G1 G2 VC1 VM H1 locs1 := ⟨hQ, gW_keep hd.2.1 hk1 (fun i j hi hj h => hdis j i hj hi h.symm), hS1⟩
  clear hQ hk1 hS1
  refine lv_aload_n hx hb dL_law_1168 rfl (lv_at hl 2 rfl) ?_
  refine lv_aload_n hx hb dL_law_1169 rfl (lv_at hl 0 rfl) ?_
  refine lv_iload_n hx hb dL_law_1170 rfl (lv_at hl 3 rfl) ?_
  refine lv_iconst (v := 1) hx hb dL_law_1171 (by decide) ?_
  refine lv_iadd hx hb dL_law_1172 ?_
  refine va_sld hx hb hX hbl hbA hd.2.2 (hin 1 (by decide)) dL_law_1173 ?_
  refine lv_aload_n hx hb dL_law_1174 rfl (lv_at hl 0 rfl) ?_
  refine lv_iload_n hx hb dL_law_1175 rfl (lv_at hl 3 rfl) ?_
  refine lv_iconst (v := 2) hx hb dL_law_1176 (by decide) ?_
  refine lv_iadd hx hb dL_law_1177 ?_
  refine va_sld hx hb hX hbl hbA hd.2.2 (hin 2 (by decide)) dL_law_1178 ?_
  refine lcI S hK2 (xs_M G2) trivial hge2 hd.2.1 hd.2.2 hl.1 lw_kw_L_148 (by decide) cM0 rfl (c_X4_book l G2 hJ2 h2) ⟨Nat.le_of_ble_eq_true rfl, Nat.le_of_ble_eq_true rfl⟩ rfl (rest := [.int _]) rfl (Nat.le_of_ble_eq_true rfl) dL_law_1179 ⟨Nat.le_of_ble_eq_true rfl, Nat.le_of_ble_eq_true rfl⟩ (fun H1 locs1 hQ hk1 hS1 => ?_)
  replace hd : LwD s G1 G2 VC1 VM1 H1 locs1 := ⟨gW_keep hd.1 hk1 hdis, hQ, hS1⟩
  clear hQ hk1 hS1
  refine lv_icmp_eq (tgt := 1305) hx hb dL_law_1182 (by decide) (fun _ => ?_) (fun hc => absurd rfl hc)
  exact kk VC1 VM1 _ _ _ hr1 hd hl
set_option maxRecDepth 100000 in
set_option maxHeartbeats 4000000 in
theorem law_read {p : Program} {l : Launch} {e : Env} {s : State} {m : MethodId} {below : List Frame} {meth : Method} {c : Code} {b L : Nat} {xs : Nat → Int32} {G1 G2 : Gd} {ks : Ks} {H : Heap} {locs : List Loc} {ls : Array Slot} {VC VM : VV} {x3 : Int32} {Q : State → Prop} {Rel : VV → VV → Prop} (hop : Op2 Rel f_X3_read f_X4_read) (C : LwC p s m c b L xs G1 G2 ks) (hrel : Rel VC VM) (hd : LwD s G1 G2 VC VM H locs) (hl : lv_has ls 4 [(0, .ref b), (1, .ref (G1.2.2 24)), (2, .ref (G2.2.2 0)), (3, .int x3)]) (hin : ∀ j : Nat, j < 6 → vp_in (x3 + nI j) L)
    (kk : ∀ (VC VM : VV) (H : Heap) (locs : List Loc) (ls : Array Slot), Rel VC VM → LwD s G1 G2 VC VM H locs → lv_has ls 4 [(0, .ref b), (1, .ref (G1.2.2 24)), (2, .ref (G2.2.2 0)), (3, .int x3)] → W p l e room_1 s m #[Value.ref b] below meth c H locs 48 1111 Q (F0 m 1305 ls [])) : W p l e room_1 s m #[Value.ref b] below meth c H locs 48 1111 Q (F0 m 1187 ls []) := by
  obtain ⟨S, hX, hbl, hK1, hK2, hJ1, hJ2, hXs, hge1, hge2, hdis⟩ := C
  obtain ⟨hx, hb, hml, hown, hts⟩ := id S
  have hbA : ¬ lwA s b := Nat.not_le.mpr hbl
  obtain ⟨r, VC1, VM1, h1, h2, hr1⟩ := hop VC VM hrel (xs (x3 + 1).toNatClampNeg) (xs (x3 + 2).toNatClampNeg)
  refine lv_aload_n hx hb dL_law_1187 rfl (lv_at hl 1 rfl) ?_
  refine lv_aload_n hx hb dL_law_1188 rfl (lv_at hl 0 rfl) ?_
  refine lv_iload_n hx hb dL_law_1189 rfl (lv_at hl 3 rfl) ?_
  refine lv_iconst (v := 1) hx hb dL_law_1190 (by decide) ?_
  refine lv_iadd hx hb dL_law_1191 ?_
  refine va_sld hx hb hX hbl hbA hd.2.2 (hin 1 (by decide)) dL_law_1192 ?_
  refine lv_aload_n hx hb dL_law_1193 rfl (lv_at hl 0 rfl) ?_
  refine lv_iload_n hx hb dL_law_1194 rfl (lv_at hl 3 rfl) ?_
  refine lv_iconst (v := 2) hx hb dL_law_1195 (by decide) ?_
  refine lv_iadd hx hb dL_law_1196 ?_
  refine va_sld hx hb hX hbl hbA hd.2.2 (hin 2 (by decide)) dL_law_1197 ?_
  refine lcI S hK1 (xs_C G1 ks) hXs hge1 hd.1 hd.2.2 hl.1 lw_kw_L_149 (by decide) cC24 rfl (c_X3_read l G1 ks hJ1 h1) ⟨Nat.le_of_ble_eq_true rfl, Nat.le_of_ble_eq_true rfl⟩ rfl (rest := []) rfl (Nat.le_of_ble_eq_true rfl) dL_law_1198 ⟨Nat.le_of_ble_eq_true rfl, Nat.le_of_ble_eq_true rfl⟩ (fun H1 locs1 hQ hk1 hS1 => ?_)
  replace hd : LwD s G1 G2 VC1 VM H1 locs1 := ⟨hQ, gW_keep hd.2.1 hk1 (fun i j hi hj h => hdis j i hj hi h.symm), hS1⟩
  clear hQ hk1 hS1
  refine lv_aload_n hx hb dL_law_1201 rfl (lv_at hl 2 rfl) ?_
  refine lv_aload_n hx hb dL_law_1202 rfl (lv_at hl 0 rfl) ?_
  refine lv_iload_n hx hb dL_law_1203 rfl (lv_at hl 3 rfl) ?_
  refine lv_iconst (v := 1) hx hb dL_law_1204 (by decide) ?_
  refine lv_iadd hx hb dL_law_1205 ?_
  refine va_sld hx hb hX hbl hbA hd.2.2 (hin 1 (by decide)) dL_law_1206 ?_
  refine lv_aload_n hx hb dL_law_1207 rfl (lv_at hl 0 rfl) ?_
  refine lv_iload_n hx hb dL_law_1208 rfl (lv_at hl 3 rfl) ?_
  refine lv_iconst (v := 2) hx hb dL_law_1209 (by decide) ?_
  refine lv_iadd hx hb dL_law_1210 ?_
  refine va_sld hx hb hX hbl hbA hd.2.2 (hin 2 (by decide)) dL_law_1211 ?_
  refine lcI S hK2 (xs_M G2) trivial hge2 hd.2.1 hd.2.2 hl.1 lw_kw_L_152 (by decide) cM0 rfl (c_X4_read l G2 hJ2 h2) ⟨Nat.le_of_ble_eq_true rfl, Nat.le_of_ble_eq_true rfl⟩ rfl (rest := [.int _]) rfl (Nat.le_of_ble_eq_true rfl) dL_law_1212 ⟨Nat.le_of_ble_eq_true rfl, Nat.le_of_ble_eq_true rfl⟩ (fun H1 locs1 hQ hk1 hS1 => ?_)
  replace hd : LwD s G1 G2 VC1 VM1 H1 locs1 := ⟨gW_keep hd.1 hk1 hdis, hQ, hS1⟩
  clear hQ hk1 hS1
  refine lv_icmp_eq (tgt := 1305) hx hb dL_law_1215 (by decide) (fun _ => ?_) (fun hc => absurd rfl hc)
  exact kk VC1 VM1 _ _ _ hr1 hd hl
set_option maxRecDepth 100000 in
set_option maxHeartbeats 4000000 in
theorem law_image {p : Program} {l : Launch} {e : Env} {s : State} {m : MethodId} {below : List Frame} {meth : Method} {c : Code} {b L : Nat} {xs : Nat → Int32} {G1 G2 : Gd} {ks : Ks} {H : Heap} {locs : List Loc} {ls : Array Slot} {VC VM : VV} {x3 : Int32} {Q : State → Prop} {Rel : VV → VV → Prop} (hop : Op0 Rel f_X3_image f_X4_image) (C : LwC p s m c b L xs G1 G2 ks) (hrel : Rel VC VM) (hd : LwD s G1 G2 VC VM H locs) (hl : lv_has ls 4 [(0, .ref b), (1, .ref (G1.2.2 24)), (2, .ref (G2.2.2 0)), (3, .int x3)]) (hin : ∀ j : Nat, j < 6 → vp_in (x3 + nI j) L)
    (kk : ∀ (VC VM : VV) (H : Heap) (locs : List Loc) (ls : Array Slot), Rel VC VM → LwD s G1 G2 VC VM H locs → lv_has ls 4 [(0, .ref b), (1, .ref (G1.2.2 24)), (2, .ref (G2.2.2 0)), (3, .int x3)] → W p l e room_1 s m #[Value.ref b] below meth c H locs 48 1111 Q (F0 m 1305 ls [])) : W p l e room_1 s m #[Value.ref b] below meth c H locs 48 1111 Q (F0 m 1220 ls []) := by
  obtain ⟨S, hX, hbl, hK1, hK2, hJ1, hJ2, hXs, hge1, hge2, hdis⟩ := C
  obtain ⟨hx, hb, hml, hown, hts⟩ := id S
  have hbA : ¬ lwA s b := Nat.not_le.mpr hbl
  obtain ⟨r, VC1, VM1, h1, h2, hr1⟩ := hop VC VM hrel
  refine lv_aload_n hx hb dL_law_1220 rfl (lv_at hl 1 rfl) ?_
  refine lcI S hK1 (xs_C G1 ks) hXs hge1 hd.1 hd.2.2 hl.1 lw_kw_L_153 (by decide) cC24 rfl (c_X3_image l G1 ks hJ1 h1) ⟨Nat.le_of_ble_eq_true rfl, Nat.le_of_ble_eq_true rfl⟩ rfl (rest := []) rfl (Nat.le_of_ble_eq_true rfl) dL_law_1221 ⟨Nat.le_of_ble_eq_true rfl, Nat.le_of_ble_eq_true rfl⟩ (fun H1 locs1 hQ hk1 hS1 => ?_)
  replace hd : LwD s G1 G2 VC1 VM H1 locs1 := ⟨hQ, gW_keep hd.2.1 hk1 (fun i j hi hj h => hdis j i hj hi h.symm), hS1⟩
  clear hQ hk1 hS1
  refine lv_aload_n hx hb dL_law_1224 rfl (lv_at hl 2 rfl) ?_
  refine lcI S hK2 (xs_M G2) trivial hge2 hd.2.1 hd.2.2 hl.1 lw_kw_L_156 (by decide) cM0 rfl (c_X4_image l G2 hJ2 h2) ⟨Nat.le_of_ble_eq_true rfl, Nat.le_of_ble_eq_true rfl⟩ rfl (rest := [.int _]) rfl (Nat.le_of_ble_eq_true rfl) dL_law_1225 ⟨Nat.le_of_ble_eq_true rfl, Nat.le_of_ble_eq_true rfl⟩ (fun H1 locs1 hQ hk1 hS1 => ?_)
  replace hd : LwD s G1 G2 VC1 VM1 H1 locs1 := ⟨gW_keep hd.1 hk1 hdis, hQ, hS1⟩
  clear hQ hk1 hS1
  refine lv_icmp_eq (tgt := 1305) hx hb dL_law_1228 (by decide) (fun _ => ?_) (fun hc => absurd rfl hc)
  exact kk VC1 VM1 _ _ _ hr1 hd hl
set_option maxRecDepth 100000 in
set_option maxHeartbeats 4000000 in
theorem law_undo {p : Program} {l : Launch} {e : Env} {s : State} {m : MethodId} {below : List Frame} {meth : Method} {c : Code} {b L : Nat} {xs : Nat → Int32} {G1 G2 : Gd} {ks : Ks} {H : Heap} {locs : List Loc} {ls : Array Slot} {VC VM : VV} {x3 : Int32} {Q : State → Prop} {Rel : VV → VV → Prop} (hop : Op0 Rel f_X3_undo f_X4_undo) (C : LwC p s m c b L xs G1 G2 ks) (hrel : Rel VC VM) (hd : LwD s G1 G2 VC VM H locs) (hl : lv_has ls 4 [(0, .ref b), (1, .ref (G1.2.2 24)), (2, .ref (G2.2.2 0)), (3, .int x3)]) (hin : ∀ j : Nat, j < 6 → vp_in (x3 + nI j) L)
    (kk : ∀ (VC VM : VV) (H : Heap) (locs : List Loc) (ls : Array Slot), Rel VC VM → LwD s G1 G2 VC VM H locs → lv_has ls 4 [(0, .ref b), (1, .ref (G1.2.2 24)), (2, .ref (G2.2.2 0)), (3, .int x3)] → W p l e room_1 s m #[Value.ref b] below meth c H locs 48 1111 Q (F0 m 1305 ls [])) : W p l e room_1 s m #[Value.ref b] below meth c H locs 48 1111 Q (F0 m 1233 ls []) := by
  obtain ⟨S, hX, hbl, hK1, hK2, hJ1, hJ2, hXs, hge1, hge2, hdis⟩ := C
  obtain ⟨hx, hb, hml, hown, hts⟩ := id S
  have hbA : ¬ lwA s b := Nat.not_le.mpr hbl
  obtain ⟨r, VC1, VM1, h1, h2, hr1⟩ := hop VC VM hrel
  refine lv_aload_n hx hb dL_law_1233 rfl (lv_at hl 1 rfl) ?_
  refine lcI S hK1 (xs_C G1 ks) hXs hge1 hd.1 hd.2.2 hl.1 lw_kw_L_157 (by decide) cC24 rfl (c_X3_undo l G1 ks hJ1 h1) ⟨Nat.le_of_ble_eq_true rfl, Nat.le_of_ble_eq_true rfl⟩ rfl (rest := []) rfl (Nat.le_of_ble_eq_true rfl) dL_law_1234 ⟨Nat.le_of_ble_eq_true rfl, Nat.le_of_ble_eq_true rfl⟩ (fun H1 locs1 hQ hk1 hS1 => ?_)
  replace hd : LwD s G1 G2 VC1 VM H1 locs1 := ⟨hQ, gW_keep hd.2.1 hk1 (fun i j hi hj h => hdis j i hj hi h.symm), hS1⟩
  clear hQ hk1 hS1
  refine lv_aload_n hx hb dL_law_1237 rfl (lv_at hl 2 rfl) ?_
  refine lcI S hK2 (xs_M G2) trivial hge2 hd.2.1 hd.2.2 hl.1 lw_kw_L_160 (by decide) cM0 rfl (c_X4_undo l G2 hJ2 h2) ⟨Nat.le_of_ble_eq_true rfl, Nat.le_of_ble_eq_true rfl⟩ rfl (rest := [.int _]) rfl (Nat.le_of_ble_eq_true rfl) dL_law_1238 ⟨Nat.le_of_ble_eq_true rfl, Nat.le_of_ble_eq_true rfl⟩ (fun H1 locs1 hQ hk1 hS1 => ?_)
  replace hd : LwD s G1 G2 VC1 VM1 H1 locs1 := ⟨gW_keep hd.1 hk1 hdis, hQ, hS1⟩
  clear hQ hk1 hS1
  refine lv_icmp_eq (tgt := 1305) hx hb dL_law_1241 (by decide) (fun _ => ?_) (fun hc => absurd rfl hc)
  exact kk VC1 VM1 _ _ _ hr1 hd hl
set_option maxRecDepth 100000 in
set_option maxHeartbeats 4000000 in
theorem law_tear {p : Program} {l : Launch} {e : Env} {s : State} {m : MethodId} {below : List Frame} {meth : Method} {c : Code} {b L : Nat} {xs : Nat → Int32} {G1 G2 : Gd} {ks : Ks} {H : Heap} {locs : List Loc} {ls : Array Slot} {VC VM : VV} {x3 : Int32} {Q : State → Prop} {Rel : VV → VV → Prop} (hop : Op0 Rel f_X3_tear f_X4_tear) (C : LwC p s m c b L xs G1 G2 ks) (hrel : Rel VC VM) (hd : LwD s G1 G2 VC VM H locs) (hl : lv_has ls 4 [(0, .ref b), (1, .ref (G1.2.2 24)), (2, .ref (G2.2.2 0)), (3, .int x3)]) (hin : ∀ j : Nat, j < 6 → vp_in (x3 + nI j) L)
    (kk : ∀ (VC VM : VV) (H : Heap) (locs : List Loc) (ls : Array Slot), Rel VC VM → LwD s G1 G2 VC VM H locs → lv_has ls 4 [(0, .ref b), (1, .ref (G1.2.2 24)), (2, .ref (G2.2.2 0)), (3, .int x3)] → W p l e room_1 s m #[Value.ref b] below meth c H locs 48 1111 Q (F0 m 1305 ls [])) : W p l e room_1 s m #[Value.ref b] below meth c H locs 48 1111 Q (F0 m 1246 ls []) := by
  obtain ⟨S, hX, hbl, hK1, hK2, hJ1, hJ2, hXs, hge1, hge2, hdis⟩ := C
  obtain ⟨hx, hb, hml, hown, hts⟩ := id S
  have hbA : ¬ lwA s b := Nat.not_le.mpr hbl
  obtain ⟨r, VC1, VM1, h1, h2, hr1⟩ := hop VC VM hrel
  refine lv_aload_n hx hb dL_law_1246 rfl (lv_at hl 1 rfl) ?_
  refine lcI S hK1 (xs_C G1 ks) hXs hge1 hd.1 hd.2.2 hl.1 lw_kw_L_161 (by decide) cC24 rfl (c_X3_tear l G1 ks hJ1 h1) ⟨Nat.le_of_ble_eq_true rfl, Nat.le_of_ble_eq_true rfl⟩ rfl (rest := []) rfl (Nat.le_of_ble_eq_true rfl) dL_law_1247 ⟨Nat.le_of_ble_eq_true rfl, Nat.le_of_ble_eq_true rfl⟩ (fun H1 locs1 hQ hk1 hS1 => ?_)
  replace hd : LwD s G1 G2 VC1 VM H1 locs1 := ⟨hQ, gW_keep hd.2.1 hk1 (fun i j hi hj h => hdis j i hj hi h.symm), hS1⟩
  clear hQ hk1 hS1
  refine lv_aload_n hx hb dL_law_1250 rfl (lv_at hl 2 rfl) ?_
  refine lcI S hK2 (xs_M G2) trivial hge2 hd.2.1 hd.2.2 hl.1 lw_kw_L_164 (by decide) cM0 rfl (c_X4_tear l G2 hJ2 h2) ⟨Nat.le_of_ble_eq_true rfl, Nat.le_of_ble_eq_true rfl⟩ rfl (rest := [.int _]) rfl (Nat.le_of_ble_eq_true rfl) dL_law_1251 ⟨Nat.le_of_ble_eq_true rfl, Nat.le_of_ble_eq_true rfl⟩ (fun H1 locs1 hQ hk1 hS1 => ?_)
  replace hd : LwD s G1 G2 VC1 VM1 H1 locs1 := ⟨gW_keep hd.1 hk1 hdis, hQ, hS1⟩
  clear hQ hk1 hS1
  refine lv_icmp_eq (tgt := 1305) hx hb dL_law_1254 (by decide) (fun _ => ?_) (fun hc => absurd rfl hc)
  exact kk VC1 VM1 _ _ _ hr1 hd hl
set_option maxRecDepth 100000 in
set_option maxHeartbeats 4000000 in
theorem law_count {p : Program} {l : Launch} {e : Env} {s : State} {m : MethodId} {below : List Frame} {meth : Method} {c : Code} {b L : Nat} {xs : Nat → Int32} {G1 G2 : Gd} {ks : Ks} {H : Heap} {locs : List Loc} {ls : Array Slot} {VC VM : VV} {x3 : Int32} {Q : State → Prop} {Rel : VV → VV → Prop} (hop : Op1 Rel f_X3_count f_X4_count) (C : LwC p s m c b L xs G1 G2 ks) (hrel : Rel VC VM) (hd : LwD s G1 G2 VC VM H locs) (hl : lv_has ls 4 [(0, .ref b), (1, .ref (G1.2.2 24)), (2, .ref (G2.2.2 0)), (3, .int x3)]) (hin : ∀ j : Nat, j < 6 → vp_in (x3 + nI j) L)
    (kk : ∀ (VC VM : VV) (H : Heap) (locs : List Loc) (ls : Array Slot), Rel VC VM → LwD s G1 G2 VC VM H locs → lv_has ls 4 [(0, .ref b), (1, .ref (G1.2.2 24)), (2, .ref (G2.2.2 0)), (3, .int x3)] → W p l e room_1 s m #[Value.ref b] below meth c H locs 48 1111 Q (F0 m 1305 ls [])) : W p l e room_1 s m #[Value.ref b] below meth c H locs 48 1111 Q (F0 m 1259 ls []) := by
  obtain ⟨S, hX, hbl, hK1, hK2, hJ1, hJ2, hXs, hge1, hge2, hdis⟩ := C
  obtain ⟨hx, hb, hml, hown, hts⟩ := id S
  have hbA : ¬ lwA s b := Nat.not_le.mpr hbl
  obtain ⟨r, VC1, VM1, h1, h2, hr1⟩ := hop VC VM hrel (xs (x3 + 1).toNatClampNeg)
  refine lv_aload_n hx hb dL_law_1259 rfl (lv_at hl 1 rfl) ?_
  refine lv_aload_n hx hb dL_law_1260 rfl (lv_at hl 0 rfl) ?_
  refine lv_iload_n hx hb dL_law_1261 rfl (lv_at hl 3 rfl) ?_
  refine lv_iconst (v := 1) hx hb dL_law_1262 (by decide) ?_
  refine lv_iadd hx hb dL_law_1263 ?_
  refine va_sld hx hb hX hbl hbA hd.2.2 (hin 1 (by decide)) dL_law_1264 ?_
  refine lcI S hK1 (xs_C G1 ks) hXs hge1 hd.1 hd.2.2 hl.1 lw_kw_L_165 (by decide) cC24 rfl (c_X3_count l G1 ks hJ1 h1) ⟨Nat.le_of_ble_eq_true rfl, Nat.le_of_ble_eq_true rfl⟩ rfl (rest := []) rfl (Nat.le_of_ble_eq_true rfl) dL_law_1265 ⟨Nat.le_of_ble_eq_true rfl, Nat.le_of_ble_eq_true rfl⟩ (fun H1 locs1 hQ hk1 hS1 => ?_)
  replace hd : LwD s G1 G2 VC1 VM H1 locs1 := ⟨hQ, gW_keep hd.2.1 hk1 (fun i j hi hj h => hdis j i hj hi h.symm), hS1⟩
  clear hQ hk1 hS1
  refine lv_aload_n hx hb dL_law_1268 rfl (lv_at hl 2 rfl) ?_
  refine lv_aload_n hx hb dL_law_1269 rfl (lv_at hl 0 rfl) ?_
  refine lv_iload_n hx hb dL_law_1270 rfl (lv_at hl 3 rfl) ?_
  refine lv_iconst (v := 1) hx hb dL_law_1271 (by decide) ?_
  refine lv_iadd hx hb dL_law_1272 ?_
  refine va_sld hx hb hX hbl hbA hd.2.2 (hin 1 (by decide)) dL_law_1273 ?_
  refine lcI S hK2 (xs_M G2) trivial hge2 hd.2.1 hd.2.2 hl.1 lw_kw_L_168 (by decide) cM0 rfl (c_X4_count l G2 hJ2 h2) ⟨Nat.le_of_ble_eq_true rfl, Nat.le_of_ble_eq_true rfl⟩ rfl (rest := [.int _]) rfl (Nat.le_of_ble_eq_true rfl) dL_law_1274 ⟨Nat.le_of_ble_eq_true rfl, Nat.le_of_ble_eq_true rfl⟩ (fun H1 locs1 hQ hk1 hS1 => ?_)
  replace hd : LwD s G1 G2 VC1 VM1 H1 locs1 := ⟨gW_keep hd.1 hk1 hdis, hQ, hS1⟩
  clear hQ hk1 hS1
  refine lv_icmp_eq (tgt := 1305) hx hb dL_law_1277 (by decide) (fun _ => ?_) (fun hc => absurd rfl hc)
  exact kk VC1 VM1 _ _ _ hr1 hd hl
set_option maxRecDepth 100000 in
set_option maxHeartbeats 4000000 in
theorem law_status {p : Program} {l : Launch} {e : Env} {s : State} {m : MethodId} {below : List Frame} {meth : Method} {c : Code} {b L : Nat} {xs : Nat → Int32} {G1 G2 : Gd} {ks : Ks} {H : Heap} {locs : List Loc} {ls : Array Slot} {VC VM : VV} {x3 : Int32} {Q : State → Prop} {Rel : VV → VV → Prop} (hop : Op1 Rel f_X3_status f_X4_status) (C : LwC p s m c b L xs G1 G2 ks) (hrel : Rel VC VM) (hd : LwD s G1 G2 VC VM H locs) (hl : lv_has ls 4 [(0, .ref b), (1, .ref (G1.2.2 24)), (2, .ref (G2.2.2 0)), (3, .int x3)]) (hin : ∀ j : Nat, j < 6 → vp_in (x3 + nI j) L)
    (kk : ∀ (VC VM : VV) (H : Heap) (locs : List Loc) (ls : Array Slot), Rel VC VM → LwD s G1 G2 VC VM H locs → lv_has ls 4 [(0, .ref b), (1, .ref (G1.2.2 24)), (2, .ref (G2.2.2 0)), (3, .int x3)] → W p l e room_1 s m #[Value.ref b] below meth c H locs 48 1111 Q (F0 m 1305 ls [])) : W p l e room_1 s m #[Value.ref b] below meth c H locs 48 1111 Q (F0 m 1282 ls []) := by
  obtain ⟨S, hX, hbl, hK1, hK2, hJ1, hJ2, hXs, hge1, hge2, hdis⟩ := C
  obtain ⟨hx, hb, hml, hown, hts⟩ := id S
  have hbA : ¬ lwA s b := Nat.not_le.mpr hbl
  obtain ⟨r, VC1, VM1, h1, h2, hr1⟩ := hop VC VM hrel (xs (x3 + 1).toNatClampNeg)
  refine lv_aload_n hx hb dL_law_1282 rfl (lv_at hl 1 rfl) ?_
  refine lv_aload_n hx hb dL_law_1283 rfl (lv_at hl 0 rfl) ?_
  refine lv_iload_n hx hb dL_law_1284 rfl (lv_at hl 3 rfl) ?_
  refine lv_iconst (v := 1) hx hb dL_law_1285 (by decide) ?_
  refine lv_iadd hx hb dL_law_1286 ?_
  refine va_sld hx hb hX hbl hbA hd.2.2 (hin 1 (by decide)) dL_law_1287 ?_
  refine lcI S hK1 (xs_C G1 ks) hXs hge1 hd.1 hd.2.2 hl.1 lw_kw_L_169 (by decide) cC24 rfl (c_X3_status l G1 ks hJ1 h1) ⟨Nat.le_of_ble_eq_true rfl, Nat.le_of_ble_eq_true rfl⟩ rfl (rest := []) rfl (Nat.le_of_ble_eq_true rfl) dL_law_1288 ⟨Nat.le_of_ble_eq_true rfl, Nat.le_of_ble_eq_true rfl⟩ (fun H1 locs1 hQ hk1 hS1 => ?_)
  replace hd : LwD s G1 G2 VC1 VM H1 locs1 := ⟨hQ, gW_keep hd.2.1 hk1 (fun i j hi hj h => hdis j i hj hi h.symm), hS1⟩
  clear hQ hk1 hS1
  refine lv_aload_n hx hb dL_law_1291 rfl (lv_at hl 2 rfl) ?_
  refine lv_aload_n hx hb dL_law_1292 rfl (lv_at hl 0 rfl) ?_
  refine lv_iload_n hx hb dL_law_1293 rfl (lv_at hl 3 rfl) ?_
  refine lv_iconst (v := 1) hx hb dL_law_1294 (by decide) ?_
  refine lv_iadd hx hb dL_law_1295 ?_
  refine va_sld hx hb hX hbl hbA hd.2.2 (hin 1 (by decide)) dL_law_1296 ?_
  refine lcI S hK2 (xs_M G2) trivial hge2 hd.2.1 hd.2.2 hl.1 lw_kw_L_172 (by decide) cM0 rfl (c_X4_status l G2 hJ2 h2) ⟨Nat.le_of_ble_eq_true rfl, Nat.le_of_ble_eq_true rfl⟩ rfl (rest := [.int _]) rfl (Nat.le_of_ble_eq_true rfl) dL_law_1297 ⟨Nat.le_of_ble_eq_true rfl, Nat.le_of_ble_eq_true rfl⟩ (fun H1 locs1 hQ hk1 hS1 => ?_)
  replace hd : LwD s G1 G2 VC1 VM1 H1 locs1 := ⟨gW_keep hd.1 hk1 hdis, hQ, hS1⟩
  clear hQ hk1 hS1
  refine lv_icmp_eq (tgt := 1305) hx hb dL_law_1300 (by decide) (fun _ => ?_) (fun hc => absurd rfl hc)
  exact kk VC1 VM1 _ _ _ hr1 hd hl
