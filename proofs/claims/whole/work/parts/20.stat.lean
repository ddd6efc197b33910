/-! ===== what stands outside the world: statics and texts ===== -/
abbrev Ks : Type := (Nat → Nat) × (Nat → Nat) × Nat
def poolS : List Nat := [107, 109, 111, 113, 115, 117, 49, 59, 61, 76, 86, 91, 95]
def textS : List String := ["walker", "shepherd", "widow", "lost", "canon", "bailiff", "fog", "clear", "village", "at", "heading", "hopes", "to"]
def bytS : List (List Int32) := [[119, 97, 108, 107, 101, 114], [115, 104, 101, 112, 104, 101, 114, 100], [119, 105, 100, 111, 119], [108, 111, 115, 116], [99, 97, 110, 111, 110], [98, 97, 105, 108, 105, 102, 102], [102, 111, 103], [99, 108, 101, 97, 114], [118, 105, 108, 108, 97, 103, 101], [97, 116], [104, 101, 97, 100, 105, 110, 103], [104, 111, 112, 101, 115], [116, 111]]
def lenS : List Nat := [6, 8, 5, 4, 5, 7, 3, 5, 7, 2, 7, 5, 2]
def kaV (j : Nat) : Int32 := [-1, 0, 0, 0, 1, 2].getD j 0
def XC (G : Gd) (ks : Ks) (U : State) : Prop := va_Z "FogKept" "KIND_ABOVE" "[I" (.ref ks.2.2) (inA 37 G.2.2) U U.heap ∧ va_T .int ks.2.2 6 (fun j => .int (kaV j)) (inA 37 G.2.2) U U.heap ∧ vk_S 13 lenS bytS ks.1 ks.2.1 (inA 37 G.2.2) U U.heap ∧ (∀ i, i < 13 → vk_R "FogKept$Tape" (poolS.getD i 0) (textS.getD i "") (ks.1 i) U) ∧ va_Z "java/lang/String" "COMPACT_STRINGS" "Z" (.int 1) (inA 37 G.2.2) U U.heap ∧ va_Zq "jdk/internal/util/Preconditions" "SIOOBE_FORMATTER" "Ljava/util/function/BiFunction;" (inA 37 G.2.2) U U.heap ∧ va_Nw (.methodLinkNest RX0 56 yX3_stepsOf "FogKept") U ∧ va_Nw (.methodLinkNest RX0 60 yX3_turnsOf "FogKept") U ∧ va_Nw (.methodLinkNest RX0 92 yX3_cellTowards "FogKept") U
theorem zq_moved {C n d : String} {A : Nat → Prop} {u U : State} {H : Heap} (hvm : u.vm.Alike U.vm) (h : va_Zq C n d A u H) : va_Zq C n d A U H := h.elim (fun h => Or.inl (h.moved hvm)) (fun ⟨t, h⟩ => Or.inr ⟨t, h.moved hvm⟩)
theorem zq_kept {C n d : String} {A : Nat → Prop} {U : State} {H H1 : Heap} (h : va_Zq C n d A U H) (hq : ∀ a : Nat, a < H.size → ¬ A a → H1[a]? = H[a]?) : va_Zq C n d A U H1 := h.elim (fun h => Or.inl (h.kept hq)) (fun ⟨t, h⟩ => Or.inr ⟨t, h.kept hq⟩)
theorem xs_C (G : Gd) (ks : Ks) : XS 37 G (XC G ks) := by
  refine ⟨fun U g mk a h => ?_, fun s U h hW hq => ?_⟩
  · obtain ⟨h1, h2, h3, h4, h5, h6, n1, n2, n3⟩ := h
    exact ⟨va_Z.moved (u := U) (Vm.Alike.refl U.vm) h1, va_T.moved (u := U) (Vm.Alike.refl U.vm) h2, vk_S.moved (u := U) (Vm.Alike.refl U.vm) h3, fun i hi => vk_R.same (u := U) rfl (h4 i hi), va_Z.moved (u := U) (Vm.Alike.refl U.vm) h5, zq_moved (u := U) (Vm.Alike.refl U.vm) h6, va_Nw.same rfl (u := U) rfl n1, va_Nw.same rfl (u := U) rfl n2, va_Nw.same rfl (u := U) rfl n3⟩
  · obtain ⟨h1, h2, h3, h4, h5, h6, n1, n2, n3⟩ := h
    exact ⟨(h1.moved hW.alike).kept hq, (h2.moved hW.alike).kept hq, (h3.moved hW.alike).kept hq, fun i hi => vk_R.warm hW (h4 i hi), (h5.moved hW.alike).kept hq, zq_kept (zq_moved hW.alike h6) hq, n1.warmM hW, n2.warmM hW, n3.warmM hW⟩
/-- a method of the JDK that only answers -/
def MT (l : Launch) (G : Gd) (ks : Ks) (ty : FieldType) (y : MethodName) (bytes : ByteArray) (maxL : Nat) (fr lo : Nat) (vals : List Value) (cell : Nat → va_E) (r0 : Int32) : Prop := Met l y (wsM y bytes maxL (some ty)) (rmF fr lo) (va_Pc vals (PPs 37 G (XC G ks) cell)) (QI 37 G cell (fun r => r = r0)) 0 0 (inA 37 G.2.2)
section ST
variable {p : Program} {l : Launch} {e : Env} {R : Room} {s : State} {m : MethodId} {args : Array Value} {below : List Frame} {meth : Method} {c : Code} {H : Heap} {locs : List Loc} {Q : State → Prop}
variable {cc : ByteArray} {pc nL : Nat} {ls : Array Slot} {rest : List Value} {n : Nat} {G : Gd} {X : State → Prop} {cell cell' : Nat → va_E} {own : String} {ks : Ks}
variable {y : MethodName} {bytes : ByteArray} {maxL idx np fr lo : Nat} {ret : Option FieldType} {As : List Value} {st : List Value}
theorem retT {ty : FieldType} {P : Int32 → Prop} {v : Int32} (C : Cx n G X p m c cc nL s args own) (hr : meth.sig.returnType = some ty) (hlk : meth.locks = false) (hd : Dy n G cell s H locs) (hz : narrow ty (.int v) = .int v) (hP : P v) (hdg : decode cc pc = .ok (.ireturn, 1)) : W p l e R s m args below meth c H locs 0 0 (MQ below (QI n G cell P) args s 0 0 (inA n G.2.2)) (F0 m pc ls [.int v]) :=
  W.zret C.1.1 C.1.2.1 hr hz (fun t ht _ => ⟨⟨v, (), rfl, hP, ppt_of ht hd.1⟩, hd.2.F ht⟩) hd.2.2.2 hdg hlk
theorem kST {ty : FieldType} {r0 : Int32} (C : Cx 37 G (XC G ks) p m c cc nL s args own) (hd : Dy 37 G cell s H locs) (hls : ls.size = nL) (K : CWs own idx y bytes maxL (some ty) np) (hM : MT l G ks ty y bytes maxL fr lo As cell r0) (hR : fr + 1 ≤ R.frames ∧ 8 + (maxL + 11) + lo ≤ R.locals) (hn : As.length = np) (hst : st = As.reverse ++ rest) (hr8 : (rest.map fun v => v.category).sum ≤ 8) (hdg : decode cc pc = .ok (.invokestatic idx, 3))
    (kk : ∀ (H : Heap) (locs : List Loc), Dy 37 G cell s H locs → W p l e R s m args below meth c H locs 0 0 Q (F0 m (pc + 3) ls (.int r0 :: rest))) : W p l e R s m args below meth c H locs 0 0 Q (F0 m pc ls st) :=
  afti (runS C hd hls K hM hR hn hst hr8 hdg) hd (fun r H locs hr hd => by rw [hr]; exact kk H locs hd)
/-- a call on a text -/
theorem kVS {ty : FieldType} {r0 : Int32} {i : Nat} (C : Cx 37 G (XC G ks) p m c cc nL s args own) (hd : Dy 37 G cell s H locs) (hls : ls.size = nL) (K : CWv own idx y bytes maxL (some ty) np) (hy : y.cls = "java/lang/String") (hi : i < 13) (hM : MT l G ks ty y bytes maxL fr lo (.ref (ks.1 i) :: As) cell r0) (hR : fr + 1 ≤ R.frames ∧ 8 + (maxL + 11) + lo ≤ R.locals) (hn : As.length = np) (hst : st = As.reverse ++ .ref (ks.1 i) :: rest) (hr8 : (rest.map fun v => v.category).sum ≤ 8) (hdg : decode cc pc = .ok (.invokevirtual idx, 3))
    (kk : ∀ (H : Heap) (locs : List Loc), Dy 37 G cell s H locs → W p l e R s m args below meth c H locs 0 0 Q (F0 m (pc + 3) ls (.int r0 :: rest))) : W p l e R s m args below meth c H locs 0 0 Q (F0 m pc ls st) := by
  refine afti (va_runV C.1 hM (cw_v C K hR) ⟨PPs_blind C.2.2.2.1, ?_, PPs_at C.2.2.2.1 C.2.2.2.2 C.2.1 hd⟩ rfl hn hls hst (lv_room hr8) hdg ⟨Nat.zero_le _, Nat.zero_le _⟩) hd (fun r H locs hr hd => by rw [hr]; exact kk H locs hd)
  rw [hy]
  exact vk_recv C.2.2.2.2.2.2.1 hi hd.2
end ST
theorem ty_boolean_1 : narrow .boolean (.int 1) = .int 1 := rfl
theorem jw_f9 : Cond.fieldLink RJ0 9 "java/lang/String" "value" "[B" ∈ TG := tg 1168 (by decide +kernel) (by decide +kernel)
theorem jw_f15 : Cond.fieldLink RJ0 15 "java/lang/String" "coder" "B" ∈ TG := tg 1169 (by decide +kernel) (by decide +kernel)
theorem jw_f38 : Cond.fieldLink RJ0 38 "java/lang/String" "COMPACT_STRINGS" "Z" ∈ TG := tg 552 (by decide +kernel) (by decide +kernel)
theorem jw_f1053 : Cond.fieldLink RJ0 1053 "jdk/internal/util/Preconditions" "SIOOBE_FORMATTER" "Ljava/util/function/BiFunction;" ∈ TG := tg 568 (by decide +kernel) (by decide +kernel)
theorem jk_coder : CWv RJ0 335 yJ0_coder_7d493 cJ0_coder_7d493 1 (some .byte) 0 := ⟨tg 548 (by decide +kernel) (by decide +kernel), tg 549 (by decide +kernel) (by decide +kernel), tg 550 (by decide +kernel) (by decide +kernel), tg 81 (by decide +kernel) (by decide +kernel), tg 551 (by decide +kernel) (by decide +kernel), by decide +kernel⟩
theorem jk_isLatin1 : CWv RJ0 492 yJ0_isLatin1_aae02 cJ0_isLatin1_aae02 1 (some .boolean) 0 := ⟨tg 558 (by decide +kernel) (by decide +kernel), tg 559 (by decide +kernel) (by decide +kernel), tg 560 (by decide +kernel) (by decide +kernel), tg 81 (by decide +kernel) (by decide +kernel), tg 561 (by decide +kernel) (by decide +kernel), by decide +kernel⟩
theorem jk_l1charAt : CWs RJ0 495 yJ1_charAt_3b067 cJ1_charAt_3b067 2 (some .char) 2 := ⟨tg 562 (by decide +kernel) (by decide +kernel), tg 563 (by decide +kernel) (by decide +kernel), tg 82 (by decide +kernel) (by decide +kernel), tg 564 (by decide +kernel) (by decide +kernel), by decide +kernel⟩
theorem jk_checkIndex : CWs RJ1 9 yJ0_checkIndex_df160 cJ0_checkIndex_df160 2 none 2 := ⟨tg 565 (by decide +kernel) (by decide +kernel), tg 566 (by decide +kernel) (by decide +kernel), tg 81 (by decide +kernel) (by decide +kernel), tg 567 (by decide +kernel) (by decide +kernel), by decide +kernel⟩
theorem jk_pre : CWs RJ0 1059 yJ3_checkIndex_8e157 cJ3_checkIndex_8e157 3 (some .int) 3 := ⟨tg 570 (by decide +kernel) (by decide +kernel), tg 571 (by decide +kernel) (by decide +kernel), tg 83 (by decide +kernel) (by decide +kernel), tg 572 (by decide +kernel) (by decide +kernel), by decide +kernel⟩
theorem jk_length : CWv RX2 119 yJ0_length_8abf5 cJ0_length_8abf5 1 (some .int) 0 := ⟨tg 544 (by decide +kernel) (by decide +kernel), tg 545 (by decide +kernel) (by decide +kernel), tg 546 (by decide +kernel) (by decide +kernel), tg 81 (by decide +kernel) (by decide +kernel), tg 547 (by decide +kernel) (by decide +kernel), by decide +kernel⟩
theorem jk_charAt : CWv RX2 123 yJ0_charAt_5068e cJ0_charAt_5068e 2 (some .char) 1 := ⟨tg 554 (by decide +kernel) (by decide +kernel), tg 555 (by decide +kernel) (by decide +kernel), tg 556 (by decide +kernel) (by decide +kernel), tg 81 (by decide +kernel) (by decide +kernel), tg 557 (by decide +kernel) (by decide +kernel), by decide +kernel⟩
set_option maxRecDepth 100000 in
set_option maxHeartbeats 4000000 in
theorem j_coder (l : Launch) (G : Gd) (ks : Ks) (hJ : Inj 37 G.2.2) {i : Nat} (hi : i < 13) {cell : Nat → va_E} : MT l G ks .byte yJ0_coder_7d493 cJ0_coder_7d493 1 0 0 [.ref (ks.1 i)] cell 0 := by
  refine walk_of (own := RJ0) (by decide) rfl hJ (xs_C G ks) (Nat.le_of_ble_eq_true rfl) ?_
  intro p e s m below meth c C hr hlk ls hl hd
  have hl : lv_has ls 1 [(0, .ref (ks.1 i))] := hl
  obtain ⟨⟨hx, hb, hml, hown, hts⟩, -⟩ := id C
  have Z := C.2.2.2.2
  refine va_gets hx hb Z.2.2.2.2.1 hd.2 hown (hts _ jw_f38) (fun _ h => h) dJ0_coder_7d493_0 ?_
  refine lv_if_eq (tgt := 13) hx hb dJ0_coder_7d493_3 (by decide) (fun hc => absurd hc (by decide)) (fun hc => ?_)
  refine lv_aload_n hx hb dJ0_coder_7d493_6 rfl (lv_at hl 0 rfl) ?_
  refine vk_getf hx hb (Z.2.2.1.1 i hi).2.1 hd.2 hown (hts _ jw_f15) (fun _ h => h) dJ0_coder_7d493_7 ?_
  refine lv_goto (tgt := 14) hx hb dJ0_coder_7d493_10 (by decide) ?_
  exact retT C hr hlk hd rfl rfl dJ0_coder_7d493_14
set_option maxRecDepth 100000 in
set_option maxHeartbeats 4000000 in
theorem j_isLatin1 (l : Launch) (G : Gd) (ks : Ks) (hJ : Inj 37 G.2.2) {i : Nat} (hi : i < 13) {cell : Nat → va_E} : MT l G ks .boolean yJ0_isLatin1_aae02 cJ0_isLatin1_aae02 1 0 0 [.ref (ks.1 i)] cell 1 := by
  refine walk_of (own := RJ0) (by decide) rfl hJ (xs_C G ks) (Nat.le_of_ble_eq_true rfl) ?_
  intro p e s m below meth c C hr hlk ls hl hd
  have hl : lv_has ls 1 [(0, .ref (ks.1 i))] := hl
  obtain ⟨⟨hx, hb, hml, hown, hts⟩, -⟩ := id C
  have Z := C.2.2.2.2
  refine va_gets hx hb Z.2.2.2.2.1 hd.2 hown (hts _ jw_f38) (fun _ h => h) dJ0_isLatin1_aae02_0 ?_
  refine lv_if_eq (tgt := 17) hx hb dJ0_isLatin1_aae02_3 (by decide) (fun hc => absurd hc (by decide)) (fun hc => ?_)
  refine lv_aload_n hx hb dJ0_isLatin1_aae02_6 rfl (lv_at hl 0 rfl) ?_
  refine vk_getf hx hb (Z.2.2.1.1 i hi).2.1 hd.2 hown (hts _ jw_f15) (fun _ h => h) dJ0_isLatin1_aae02_7 ?_
  refine lv_if_ne (tgt := 17) hx hb dJ0_isLatin1_aae02_10 (by decide) (fun hc => absurd rfl hc) (fun hc => ?_)
  refine lv_iconst (v := 1) hx hb dJ0_isLatin1_aae02_13 (by decide) ?_
  refine lv_goto (tgt := 18) hx hb dJ0_isLatin1_aae02_14 (by decide) ?_
  exact retT C hr hlk hd rfl rfl dJ0_isLatin1_aae02_18
set_option maxRecDepth 100000 in
set_option maxHeartbeats 4000000 in
theorem j_length (l : Launch) (G : Gd) (ks : Ks) (hJ : Inj 37 G.2.2) {i : Nat} (hi : i < 13) {cell : Nat → va_E} : MT l G ks .int yJ0_length_8abf5 cJ0_length_8abf5 1 1 20 [.ref (ks.1 i)] cell (nI (lenS.getD i 0)) := by
  refine walk_of (own := RJ0) (by decide) rfl hJ (xs_C G ks) (Nat.le_of_ble_eq_true rfl) ?_
  intro p e s m below meth c C hr hlk ls hl hd
  have hl : lv_has ls 1 [(0, .ref (ks.1 i))] := hl
  obtain ⟨⟨hx, hb, hml, hown, hts⟩, -⟩ := id C
  have Z := C.2.2.2.2
  refine lv_aload_n hx hb dJ0_length_8abf5_0 rfl (lv_at hl 0 rfl) ?_
  refine vk_getf hx hb (Z.2.2.1.1 i hi).2.2.1 hd.2 hown (hts _ jw_f9) (fun _ h => h) dJ0_length_8abf5_1 ?_
  refine va_tlen hx hb (Z.2.2.1.1 i hi).2.2.2 hd.2 rfl dJ0_length_8abf5_4 ?_
  refine lv_aload_n hx hb dJ0_length_8abf5_5 rfl (lv_at hl 0 rfl) ?_
  refine kVS (i := i) C hd hl.1 jk_coder rfl hi (j_coder l G ks hJ hi) ⟨Nat.le_of_ble_eq_true rfl, Nat.le_of_ble_eq_true rfl⟩ rfl (rest := [.int _]) rfl (Nat.le_of_ble_eq_true rfl) dJ0_length_8abf5_6 (fun H locs hd => ?_)
  refine lv_ishr hx hb dJ0_length_8abf5_9 ?_
  exact retT C hr hlk hd rfl (sb_shr0 _) dJ0_length_8abf5_10
set_option maxRecDepth 100000 in
set_option maxHeartbeats 4000000 in
theorem j_pre (l : Launch) (G : Gd) (ks : Ks) (hJ : Inj 37 G.2.2) {a n : Int32} {v : Value} (hv : v = .null ∨ ∃ t, v = .ref t) (h0 : ¬ a < 0) (h1 : a < n) {cell : Nat → va_E} : MT l G ks .int yJ3_checkIndex_8e157 cJ3_checkIndex_8e157 3 0 0 [.int a, .int n, v] cell a := by
  have hlen : (lg_sl [.int a, .int n, v]).length ≤ 3 := by rcases hv with rfl | ⟨t, rfl⟩ <;> exact Nat.le_of_ble_eq_true rfl
  refine walk_of (own := RJ3) (by decide) rfl hJ (xs_C G ks) hlen ?_
  intro p e s m below meth c C hr hlk ls hl hd
  have hl : lv_has ls 3 [(0, .int a), (1, .int n), (2, v)] := hl
  obtain ⟨⟨hx, hb, hml, hown, hts⟩, -⟩ := id C
  refine lv_iload_n hx hb dJ3_checkIndex_8e157_0 rfl (lv_at hl 0 rfl) ?_
  refine lv_if_lt (tgt := 9) hx hb dJ3_checkIndex_8e157_1 (by decide) (fun hc => absurd hc h0) (fun hc => ?_)
  refine lv_iload_n hx hb dJ3_checkIndex_8e157_4 rfl (lv_at hl 0 rfl) ?_
  refine lv_iload_n hx hb dJ3_checkIndex_8e157_5 rfl (lv_at hl 1 rfl) ?_
  refine lv_icmp_lt (tgt := 16) hx hb dJ3_checkIndex_8e157_6 (by decide) (fun hc => ?_) (fun hc => absurd h1 hc)
  refine lv_iload_n hx hb dJ3_checkIndex_8e157_16 rfl (lv_at hl 0 rfl) ?_
  exact retT C hr hlk hd rfl rfl dJ3_checkIndex_8e157_17
set_option maxRecDepth 100000 in
set_option maxHeartbeats 4000000 in
theorem j_checkIndex (l : Launch) (G : Gd) (ks : Ks) (hJ : Inj 37 G.2.2) {a n : Int32} (h0 : ¬ a < 0) (h1 : a < n) {cell : Nat → va_E} : MV l 37 G (XC G ks) yJ0_checkIndex_df160 cJ0_checkIndex_df160 2 1 22 [.int a, .int n] cell cell := by
  refine walk_of (own := RJ0) (by decide) rfl hJ (xs_C G ks) (Nat.le_of_ble_eq_true rfl) ?_
  intro p e s m below meth c C hr hlk ls hl hd
  have hl : lv_has ls 2 [(0, .int a), (1, .int n)] := hl
  obtain ⟨⟨hx, hb, hml, hown, hts⟩, -⟩ := id C
  obtain ⟨v, hv, hZ⟩ : ∃ v : Value, (v = .null ∨ ∃ t, v = .ref t) ∧ va_Z "jdk/internal/util/Preconditions" "SIOOBE_FORMATTER" "Ljava/util/function/BiFunction;" v (inA 37 G.2.2) s s.heap := by
    rcases C.2.2.2.2.2.2.2.2.2.1 with h | ⟨t, h⟩
    · exact ⟨_, Or.inl rfl, h⟩
    · exact ⟨_, Or.inr ⟨t, rfl⟩, h⟩
  refine lv_iload_n hx hb dJ0_checkIndex_df160_0 rfl (lv_at hl 0 rfl) ?_
  refine lv_iload_n hx hb dJ0_checkIndex_df160_1 rfl (lv_at hl 1 rfl) ?_
  refine va_gets hx hb hZ hd.2 hown (hts _ jw_f1053) (fun _ h => h) dJ0_checkIndex_df160_2 ?_
  refine kST C hd hl.1 jk_pre (j_pre l G ks hJ hv h0 h1) ⟨Nat.le_of_ble_eq_true rfl, Nat.le_of_ble_eq_true rfl⟩ rfl (rest := []) rfl (Nat.le_of_ble_eq_true rfl) dJ0_checkIndex_df160_5 (fun H locs hd => ?_)
  refine lv_pop hx hb dJ0_checkIndex_df160_8 rfl ?_
  exact retV C hr hlk hd dJ0_checkIndex_df160_9
/-- the char at k of a text -/
def chS (i k : Nat) : Int32 := (((bytS.getD i []).getD k 0 &&& 255).toUInt32 % 65536).toInt32
theorem lenS_lt : ∀ i, i < 13 → lenS.getD i 0 < 2 ^ 31 := by decide +kernel
set_option maxRecDepth 100000 in
set_option maxHeartbeats 4000000 in
theorem j_l1charAt (l : Launch) (G : Gd) (ks : Ks) (hJ : Inj 37 G.2.2) {i : Nat} (hi : i < 13) {a : Int32} (ha : inb a (lenS.getD i 0) = true) {cell : Nat → va_E} : MT l G ks .char yJ1_charAt_3b067 cJ1_charAt_3b067 2 2 43 [.ref (ks.2.1 i), .int a] cell (chS i a.toNatClampNeg) := by
  refine walk_of (own := RJ1) (by decide) rfl hJ (xs_C G ks) (Nat.le_of_ble_eq_true rfl) ?_
  intro p e s m below meth c C hr hlk ls hl hd
  have hl : lv_has ls 2 [(0, .ref (ks.2.1 i)), (1, .int a)] := hl
  obtain ⟨⟨hx, hb, hml, hown, hts⟩, -⟩ := id C
  have Z := C.2.2.2.2
  have hin := inb_in ha
  obtain ⟨j, hj, ej⟩ := vp_in_of hin (lenS_lt i hi)
  refine lv_iload_n hx hb dJ1_charAt_3b067_0 rfl (lv_at hl 1 rfl) ?_
  refine lv_aload_n hx hb dJ1_charAt_3b067_1 rfl (lv_at hl 0 rfl) ?_
  refine va_tlen hx hb (Z.2.2.1.1 i hi).2.2.2 hd.2 rfl dJ1_charAt_3b067_2 ?_
  refine aftv (runS C hd hl.1 jk_checkIndex (j_checkIndex l G ks hJ (fun h => hin (Or.inl h)) (by rw [ej]; exact nI_lt hj (lenS_lt i hi))) ⟨Nat.le_of_ble_eq_true rfl, Nat.le_of_ble_eq_true rfl⟩ rfl (rest := []) rfl (Nat.le_of_ble_eq_true rfl) dJ1_charAt_3b067_3) hd (fun H locs hd => ?_)
  refine lv_aload_n hx hb dJ1_charAt_3b067_6 rfl (lv_at hl 0 rfl) ?_
  refine lv_iload_n hx hb dJ1_charAt_3b067_7 rfl (lv_at hl 1 rfl) ?_
  refine va_tb hx hb (Z.2.2.1.1 i hi).2.2.2 hd.2 hin rfl dJ1_charAt_3b067_8 ?_
  refine lv_sipush (v := 255) hx hb dJ1_charAt_3b067_9 (by decide) ?_
  refine lv_iand hx hb dJ1_charAt_3b067_12 ?_
  refine lv_i2c hx hb dJ1_charAt_3b067_13 rfl ?_
  exact retT C hr hlk hd (pk_nc _) rfl dJ1_charAt_3b067_14
set_option maxRecDepth 100000 in
set_option maxHeartbeats 4000000 in
theorem j_charAt (l : Launch) (G : Gd) (ks : Ks) (hJ : Inj 37 G.2.2) {i : Nat} (hi : i < 13) {a : Int32} (ha : inb a (lenS.getD i 0) = true) {cell : Nat → va_E} : MT l G ks .char yJ0_charAt_5068e cJ0_charAt_5068e 2 3 64 [.ref (ks.1 i), .int a] cell (chS i a.toNatClampNeg) := by
  refine walk_of (own := RJ0) (by decide) rfl hJ (xs_C G ks) (Nat.le_of_ble_eq_true rfl) ?_
  intro p e s m below meth c C hr hlk ls hl hd
  have hl : lv_has ls 2 [(0, .ref (ks.1 i)), (1, .int a)] := hl
  obtain ⟨⟨hx, hb, hml, hown, hts⟩, -⟩ := id C
  have Z := C.2.2.2.2
  refine lv_aload_n hx hb dJ0_charAt_5068e_0 rfl (lv_at hl 0 rfl) ?_
  refine kVS (i := i) C hd hl.1 jk_isLatin1 rfl hi (j_isLatin1 l G ks hJ hi) ⟨Nat.le_of_ble_eq_true rfl, Nat.le_of_ble_eq_true rfl⟩ rfl (rest := []) rfl (Nat.le_of_ble_eq_true rfl) dJ0_charAt_5068e_1 (fun H locs hd => ?_)
  refine lv_if_eq (tgt := 16) hx hb dJ0_charAt_5068e_4 (by decide) (fun hc => absurd hc (by decide)) (fun hc => ?_)
  refine lv_aload_n hx hb dJ0_charAt_5068e_7 rfl (lv_at hl 0 rfl) ?_
  refine vk_getf hx hb (Z.2.2.1.1 i hi).2.2.1 hd.2 hown (hts _ jw_f9) (fun _ h => h) dJ0_charAt_5068e_8 ?_
  refine lv_iload_n hx hb dJ0_charAt_5068e_11 rfl (lv_at hl 1 rfl) ?_
  refine kST C hd hl.1 jk_l1charAt (j_l1charAt l G ks hJ hi ha) ⟨Nat.le_of_ble_eq_true rfl, Nat.le_of_ble_eq_true rfl⟩ rfl (rest := []) rfl (Nat.le_of_ble_eq_true rfl) dJ0_charAt_5068e_12 (fun H locs hd => ?_)
  exact retT C hr hlk hd (pk_nc _) rfl dJ0_charAt_5068e_15
