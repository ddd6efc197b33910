theorem lw_six {L i : Nat} {x3 : Int32} (hL : L ≤ 3072) (hi : i ≤ L + 6) (h3 : x3 = nI i) (hc : ¬ Int32.ofNat L - 6 < x3) : i + 6 ≤ L ∧ ∀ j : Nat, j < 6 → vp_in (x3 + nI j) L := by
  subst h3
  have e1 : (nI L - nI 6).toInt = (L : Int) - (6 : Nat) := pk_sub_toInt (by omega) (by decide)
  have e2 : (nI i).toInt = (i : Int) := nI_toInt (by omega)
  have h : ¬ nI L - nI 6 < nI i := hc
  rw [Int32.lt_iff_toInt_lt, e1, e2] at h
  refine ⟨by omega, fun j hj => ?_⟩
  rw [nI_add]
  exact vp_in_nI (by omega) (by omega)
section RK
variable {p : Program} {l : Launch} {e : Env} {R : Room} {s : State} {m : MethodId} {args : Array Value} {below : List Frame} {meth : Method} {c : Code} {H : Heap} {locs : List Loc} {Q : State → Prop} {cells slots : Nat}
variable {cc : ByteArray} {pc : Nat} {ls : Array Slot} {rest : List Value}
theorem rtabK (hexec : p.tables.exec = Jvm.exec) (hb : c.code = cc) {dflt lo hi : Int} {offs : Array Int} {len : Nat} {x k : Int32} {off : Int} {tgt : Nat} (hdg : decode cc pc = .ok (.tableswitch dflt lo hi offs, len)) (hk : x = k) (h1 : ¬ k.toInt < lo) (h2 : ¬ hi < k.toInt) (ho : offs[(k.toInt - lo).toNat]? = some off) (ht : (pc : Int) + off = (tgt : Int))
    (kk : W p l e R s m args below meth c H locs cells slots Q (F0 m tgt ls rest)) : W p l e R s m args below meth c H locs cells slots Q (F0 m pc ls (.int x :: rest)) := by
  subst hk
  exact lv_tableIn hexec hb hdg h1 h2 ho ht kk
end RK
set_option maxRecDepth 100000 in
set_option maxHeartbeats 4000000 in
theorem law_loop {p : Program} {l : Launch} {e : Env} {s : State} {m : MethodId} {below : List Frame} {meth : Method} {c : Code} {b L : Nat} {xs : Nat → Int32} {G1 G2 : Gd} {ks : Ks} {Rel : VV → VV → Prop} (hops : Ops Rel) (hL : L ≤ 3072) (C : LwC p s m c b L xs G1 G2 ks) (hr : meth.sig.returnType = ret) (hlocks : meth.locks = false) : ∀ (n i : Nat) (x3 : Int32) (VC VM : VV) (H : Heap) (locs : List Loc) (ls : Array Slot), L < i + n → i ≤ L + 6 → x3 = nI i → Rel VC VM → LwD s G1 G2 VC VM H locs → lv_has ls 4 [(0, .ref b), (1, .ref (G1.2.2 24)), (2, .ref (G2.2.2 0)), (3, .int x3)] → W p l e room_1 s m #[Value.ref b] below meth c H locs 48 1111 (lw_Z below #[Value.ref b] s) (F0 m 18 ls []) := by
  intro n
  have S := C.1
  obtain ⟨hx, hb, hml, hown, hts⟩ := id S
  have hX := C.2.1
  have hbl := C.2.2.1
  have hbA : ¬ lwA s b := Nat.not_le.mpr hbl
  obtain ⟨o0, o1, o2, o3, o4, o5, o6, o7, o8, o9, o10, o11, o12, o13, o14, o15, o16, o17, o18, o19, o20, o21, o22, o23, o24, o25, o26, o27, o28, o29, o30, o31, o32, o33, o34, o35, o36, o37⟩ := hops
  have stop : ∀ (H : Heap) (locs : List Loc) (ls : Array Slot), va_S (lwA s) s.heap H locs → W p l e room_1 s m #[Value.ref b] below meth c H locs 48 1111 (lw_Z below #[Value.ref b] s) (F0 m 1311 ls []) := by
    intro H locs ls hS
    refine lv_iconst (v := 1) hx hb dL_law_1311 (by decide) ?_
    refine va_forget (fun q hq => hS.2.2 q hq) ?_
    refine W.widen (k := 600000) (n := 7302250) (Nat.le_of_ble_eq_true rfl) (Nat.le_of_ble_eq_true rfl) ?_
    exact lw_ret hx hb hr hlocks dL_law_1312
  induction n with
  | zero =>
    intro i x3 VC VM H locs ls h1 h2 h3 hrel hd hl
    refine lv_iload_n hx hb dL_law_18 rfl (lv_at hl 3 rfl) ?_
    refine lv_aload_n hx hb dL_law_19 rfl (lv_at hl 0 rfl) ?_
    refine va_slen hx hb hX hbl hbA hd.2.2 dL_law_20 ?_
    refine lv_bipush (v := 6) hx hb dL_law_21 (by decide) ?_
    refine lv_isub hx hb dL_law_23 ?_
    refine lv_icmp_gt (tgt := 1311) hx hb dL_law_24 (by decide) (fun _ => stop H locs ls hd.2.2) (fun hc => ?_)
    exact absurd (lw_six hL h2 h3 hc).1 (by omega)
  | succ n ih =>
    intro i x3 VC VM H locs ls h1 h2 h3 hrel hd hl
    refine lv_iload_n hx hb dL_law_18 rfl (lv_at hl 3 rfl) ?_
    refine lv_aload_n hx hb dL_law_19 rfl (lv_at hl 0 rfl) ?_
    refine va_slen hx hb hX hbl hbA hd.2.2 dL_law_20 ?_
    refine lv_bipush (v := 6) hx hb dL_law_21 (by decide) ?_
    refine lv_isub hx hb dL_law_23 ?_
    refine lv_icmp_gt (tgt := 1311) hx hb dL_law_24 (by decide) (fun _ => stop H locs ls hd.2.2) (fun hc => ?_)
    obtain ⟨h6, hin⟩ := lw_six hL h2 h3 hc
    have back : ∀ (VC VM : VV) (H : Heap) (locs : List Loc) (ls : Array Slot), Rel VC VM → LwD s G1 G2 VC VM H locs → lv_has ls 4 [(0, .ref b), (1, .ref (G1.2.2 24)), (2, .ref (G2.2.2 0)), (3, .int x3)] → W p l e room_1 s m #[Value.ref b] below meth c H locs 48 1111 (lw_Z below #[Value.ref b] s) (F0 m 1305 ls []) := by
      intro VC VM H locs ls hrel hd hl
      refine lv_iinc (v := x3 + 6) (lv' := [(3, .int _), (0, .ref _), (1, .ref _), (2, .ref _)]) hx hb dL_law_1305 hl (k := 3) rfl rfl (by decide) rfl (fun ls hl => ?_)
      refine lv_goto (tgt := 18) hx hb dL_law_1308 (by decide) ?_
      exact ih (i + 6) (x3 + 6) VC VM H locs ls (by omega) (by omega) (by rw [h3]; exact nI_add i 6) hrel hd (lv_sub hl [1, 2, 3, 0] rfl)
    refine lv_aload_n hx hb dL_law_27 rfl (lv_at hl 0 rfl) ?_
    refine lv_iload_n hx hb dL_law_28 rfl (lv_at hl 3 rfl) ?_
    refine va_sld hx hb hX hbl hbA hd.2.2 (by have := hin 0 (by decide); rw [nI_0, Int32.add_zero] at this; exact this) dL_law_29 ?_
    refine lv_bipush (v := 63) hx hb dL_law_30 (by decide) ?_
    refine lv_iand hx hb dL_law_32 ?_
    generalize xs x3.toNatClampNeg &&& 63 = sel
    by_cases hc0 : sel = 0
    · refine rtabK (k := 0) (off := 167) (tgt := 200) hx hb dL_law_33 hc0 (by decide) (by decide) rfl (by decide) ?_
      exact law_fog o0 C hrel hd hl hin back
    by_cases hc1 : sel = 1
    · refine rtabK (k := 1) (off := 190) (tgt := 223) hx hb dL_law_33 hc1 (by decide) (by decide) rfl (by decide) ?_
      exact law_village o1 C hrel hd hl hin back
    by_cases hc2 : sel = 2
    · refine rtabK (k := 2) (off := 213) (tgt := 246) hx hb dL_law_33 hc2 (by decide) (by decide) rfl (by decide) ?_
      exact law_at o2 C hrel hd hl hin back
    by_cases hc3 : sel = 3
    · refine rtabK (k := 3) (off := 236) (tgt := 269) hx hb dL_law_33 hc3 (by decide) (by decide) rfl (by decide) ?_
      exact law_walker o3 C hrel hd hl hin back
    by_cases hc4 : sel = 4
    · refine rtabK (k := 4) (off := 269) (tgt := 302) hx hb dL_law_33 hc4 (by decide) (by decide) rfl (by decide) ?_
      exact law_of o4 C hrel hd hl hin back
    by_cases hc5 : sel = 5
    · refine rtabK (k := 5) (off := 302) (tgt := 335) hx hb dL_law_33 hc5 (by decide) (by decide) rfl (by decide) ?_
      exact law_set o5 C hrel hd hl hin back
    by_cases hc6 : sel = 6
    · refine rtabK (k := 6) (off := 345) (tgt := 378) hx hb dL_law_33 hc6 (by decide) (by decide) rfl (by decide) ?_
      exact law_turn o6 C hrel hd hl hin back
    by_cases hc7 : sel = 7
    · refine rtabK (k := 7) (off := 378) (tgt := 411) hx hb dL_law_33 hc7 (by decide) (by decide) rfl (by decide) ?_
      exact law_as o7 C hrel hd hl hin back
    by_cases hc8 : sel = 8
    · refine rtabK (k := 8) (off := 411) (tgt := 444) hx hb dL_law_33 hc8 (by decide) (by decide) rfl (by decide) ?_
      exact law_free o8 C hrel hd hl hin back
    by_cases hc9 : sel = 9
    · refine rtabK (k := 9) (off := 434) (tgt := 467) hx hb dL_law_33 hc9 (by decide) (by decide) rfl (by decide) ?_
      exact law_keep o9 C hrel hd hl hin back
    by_cases hc10 : sel = 10
    · refine rtabK (k := 10) (off := 467) (tgt := 500) hx hb dL_law_33 hc10 (by decide) (by decide) rfl (by decide) ?_
      exact law_hours o10 C hrel hd hl hin back
    by_cases hc11 : sel = 11
    · refine rtabK (k := 11) (off := 490) (tgt := 523) hx hb dL_law_33 hc11 (by decide) (by decide) rfl (by decide) ?_
      exact law_now o11 C hrel hd hl hin back
    by_cases hc12 : sel = 12
    · refine rtabK (k := 12) (off := 513) (tgt := 546) hx hb dL_law_33 hc12 (by decide) (by decide) rfl (by decide) ?_
      exact law_on o12 C hrel hd hl hin back
    by_cases hc13 : sel = 13
    · refine rtabK (k := 13) (off := 556) (tgt := 589) hx hb dL_law_33 hc13 (by decide) (by decide) rfl (by decide) ?_
      exact law_meet o13 C hrel hd hl hin back
    by_cases hc14 : sel = 14
    · refine rtabK (k := 14) (off := 589) (tgt := 622) hx hb dL_law_33 hc14 (by decide) (by decide) rfl (by decide) ?_
      exact law_when o14 C hrel hd hl hin back
    by_cases hc15 : sel = 15
    · refine rtabK (k := 15) (off := 612) (tgt := 645) hx hb dL_law_33 hc15 (by decide) (by decide) rfl (by decide) ?_
      exact law_till o15 C hrel hd hl hin back
    by_cases hc16 : sel = 16
    · refine rtabK (k := 16) (off := 635) (tgt := 668) hx hb dL_law_33 hc16 (by decide) (by decide) rfl (by decide) ?_
      exact law_glad o16 C hrel hd hl hin back
    by_cases hc17 : sel = 17
    · refine rtabK (k := 17) (off := 658) (tgt := 691) hx hb dL_law_33 hc17 (by decide) (by decide) rfl (by decide) ?_
      exact law_heading o17 C hrel hd hl hin back
    by_cases hc18 : sel = 18
    · refine rtabK (k := 18) (off := 691) (tgt := 724) hx hb dL_law_33 hc18 (by decide) (by decide) rfl (by decide) ?_
      exact law_begin o18 C hrel hd hl hin back
    by_cases hc19 : sel = 19
    · refine rtabK (k := 19) (off := 724) (tgt := 757) hx hb dL_law_33 hc19 (by decide) (by decide) rfl (by decide) ?_
      exact law_kind o19 C hrel hd hl hin back
    by_cases hc20 : sel = 20
    · refine rtabK (k := 20) (off := 747) (tgt := 780) hx hb dL_law_33 hc20 (by decide) (by decide) rfl (by decide) ?_
      exact law_hour o20 C hrel hd hl hin back
    by_cases hc21 : sel = 21
    · refine rtabK (k := 21) (off := 780) (tgt := 813) hx hb dL_law_33 hc21 (by decide) (by decide) rfl (by decide) ?_
      exact law_hope o21 C hrel hd hl hin back
    by_cases hc22 : sel = 22
    · refine rtabK (k := 22) (off := 813) (tgt := 846) hx hb dL_law_33 hc22 (by decide) (by decide) rfl (by decide) ?_
      exact law_more o22 C hrel hd hl hin back
    by_cases hc23 : sel = 23
    · refine rtabK (k := 23) (off := 836) (tgt := 869) hx hb dL_law_33 hc23 (by decide) (by decide) rfl (by decide) ?_
      exact law_best o23 C hrel hd hl hin back
    by_cases hc24 : sel = 24
    · refine rtabK (k := 24) (off := 859) (tgt := 892) hx hb dL_law_33 hc24 (by decide) (by decide) rfl (by decide) ?_
      exact law_feed o24 C hrel hd hl hin back
    by_cases hc25 : sel = 25
    · refine rtabK (k := 25) (off := 892) (tgt := 925) hx hb dL_law_33 hc25 (by decide) (by decide) rfl (by decide) ?_
      exact law_wipe o25 C hrel hd hl hin back
    by_cases hc26 : sel = 26
    · refine rtabK (k := 26) (off := 905) (tgt := 938) hx hb dL_law_33 hc26 (by decide) (by decide) rfl (by decide) ?_
      exact law_moor o26 C hrel hd hl hin back
    by_cases hc27 : sel = 27
    · refine rtabK (k := 27) (off := 918) (tgt := 951) hx hb dL_law_33 hc27 (by decide) (by decide) rfl (by decide) ?_
      exact law_sheet o27 C hrel hd hl hin back
    by_cases hc28 : sel = 28
    · refine rtabK (k := 28) (off := 961) (tgt := 994) hx hb dL_law_33 hc28 (by decide) (by decide) rfl (by decide) ?_
      exact law_write o28 C hrel hd hl hin back
    by_cases hc29 : sel = 29
    · refine rtabK (k := 29) (off := 1035) (tgt := 1068) hx hb dL_law_33 hc29 (by decide) (by decide) rfl (by decide) ?_
      exact law_copy o29 C hrel hd hl hin back
    by_cases hc30 : sel = 30
    · refine rtabK (k := 30) (off := 1098) (tgt := 1131) hx hb dL_law_33 hc30 (by decide) (by decide) rfl (by decide) ?_
      exact law_lays o30 C hrel hd hl hin back
    by_cases hc31 : sel = 31
    · refine rtabK (k := 31) (off := 1121) (tgt := 1154) hx hb dL_law_33 hc31 (by decide) (by decide) rfl (by decide) ?_
      exact law_book o31 C hrel hd hl hin back
    by_cases hc32 : sel = 32
    · refine rtabK (k := 32) (off := 1154) (tgt := 1187) hx hb dL_law_33 hc32 (by decide) (by decide) rfl (by decide) ?_
      exact law_read o32 C hrel hd hl hin back
    by_cases hc33 : sel = 33
    · refine rtabK (k := 33) (off := 1187) (tgt := 1220) hx hb dL_law_33 hc33 (by decide) (by decide) rfl (by decide) ?_
      exact law_image o33 C hrel hd hl hin back
    by_cases hc34 : sel = 34
    · refine rtabK (k := 34) (off := 1200) (tgt := 1233) hx hb dL_law_33 hc34 (by decide) (by decide) rfl (by decide) ?_
      exact law_undo o34 C hrel hd hl hin back
    by_cases hc35 : sel = 35
    · refine rtabK (k := 35) (off := 1213) (tgt := 1246) hx hb dL_law_33 hc35 (by decide) (by decide) rfl (by decide) ?_
      exact law_tear o35 C hrel hd hl hin back
    by_cases hc36 : sel = 36
    · refine rtabK (k := 36) (off := 1226) (tgt := 1259) hx hb dL_law_33 hc36 (by decide) (by decide) rfl (by decide) ?_
      exact law_count o36 C hrel hd hl hin back
    by_cases hc37 : sel = 37
    · refine rtabK (k := 37) (off := 1249) (tgt := 1282) hx hb dL_law_33 hc37 (by decide) (by decide) rfl (by decide) ?_
      exact law_status o37 C hrel hd hl hin back
    refine lv_tableOut (tgt := 1305) hx hb dL_law_33 (tbl_out (fun k k1 k2 => ?_)) (by decide) (back VC VM H locs ls hrel hd hl)
    rcases (show k = 0 ∨ k = 1 ∨ k = 2 ∨ k = 3 ∨ k = 4 ∨ k = 5 ∨ k = 6 ∨ k = 7 ∨ k = 8 ∨ k = 9 ∨ k = 10 ∨ k = 11 ∨ k = 12 ∨ k = 13 ∨ k = 14 ∨ k = 15 ∨ k = 16 ∨ k = 17 ∨ k = 18 ∨ k = 19 ∨ k = 20 ∨ k = 21 ∨ k = 22 ∨ k = 23 ∨ k = 24 ∨ k = 25 ∨ k = 26 ∨ k = 27 ∨ k = 28 ∨ k = 29 ∨ k = 30 ∨ k = 31 ∨ k = 32 ∨ k = 33 ∨ k = 34 ∨ k = 35 ∨ k = 36 ∨ k = 37 by omega) with rfl | rfl | rfl | rfl | rfl | rfl | rfl | rfl | rfl | rfl | rfl | rfl | rfl | rfl | rfl | rfl | rfl | rfl | rfl | rfl | rfl | rfl | rfl | rfl | rfl | rfl | rfl | rfl | rfl | rfl | rfl | rfl | rfl | rfl | rfl | rfl | rfl | rfl
    · exact hc0
    · exact hc1
    · exact hc2
    · exact hc3
    · exact hc4
    · exact hc5
    · exact hc6
    · exact hc7
    · exact hc8
    · exact hc9
    · exact hc10
    · exact hc11
    · exact hc12
    · exact hc13
    · exact hc14
    · exact hc15
    · exact hc16
    · exact hc17
    · exact hc18
    · exact hc19
    · exact hc20
    · exact hc21
    · exact hc22
    · exact hc23
    · exact hc24
    · exact hc25
    · exact hc26
    · exact hc27
    · exact hc28
    · exact hc29
    · exact hc30
    · exact hc31
    · exact hc32
    · exact hc33
    · exact hc34
    · exact hc35
    · exact hc36
    · exact hc37
