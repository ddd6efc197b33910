set_option maxRecDepth 100000 in
set_option maxHeartbeats 4000000 in
theorem c_X0_release (l : Launch) (G : Gd) (ks : Ks) (hJ : Inj 37 G.2.2) {j : Nat} {a1 : Int32} (hj : j < 3) {V V' : VV} (he : f_X0_release j a1 V = some V') : MV l 37 G (XC G ks) yX0_release cX0_release 3 1 21 [.ref (G.2.2 (8 * j)), .int a1] (cC G V) (cC G V') := by
  refine walk_of (own := RX0) (by decide) rfl hJ (xs_C G ks) (Nat.le_of_ble_eq_true rfl) ?_
  intro p e s m below meth c C hr hlk ls hl hd
  have hl : lv_has ls 3 [(0, .ref (G.2.2 (8 * j))), (1, .int a1)] := hl
  obtain ⟨⟨hx, hb, hml, hown, hts⟩, -⟩ := id C
  unfold f_X0_release at he
  refine lv_aload_n hx hb dX0_release_0 rfl (lv_at hl 0 rfl) ?_
  refine rgetf C hd (lt_moor hj) (cC_moor hj) rfl tgX0 9 (by decide) uw121 rfl dX0_release_1 ?_
  refine lv_iload_n hx hb dX0_release_4 rfl (lv_at hl 1 rfl) ?_
  replace he := g_some he
  obtain ⟨hi1, he⟩ := he
  refine riald C hd (lt_marr hj 6 (by decide)) (cC_marr hj 6 (by decide) (by decide)) hi1 dX0_release_5 ?_
  refine lv_istore_n (lv' := [(2, .int _), (0, .ref _), (1, .int _)]) hx hb dX0_release_6 rfl hl (by decide) rfl (fun ls hl => ?_)
  refine lv_aload_n hx hb dX0_release_7 rfl (lv_at hl 1 rfl) ?_
  refine lv_iload_n hx hb dX0_release_8 rfl (lv_at hl 0 rfl) ?_
  replace he := b_some he
  obtain ⟨⟨r2, V2⟩, h2, he⟩ := he
  refine kVZ C hd hl.1 kw_X0_74 (lt_moor hj) (cC_moor hj) rfl (c_X0_has l G ks hJ hj h2) ⟨Nat.le_of_ble_eq_true rfl, Nat.le_of_ble_eq_true rfl⟩ rfl (rest := []) rfl (Nat.le_of_ble_eq_true rfl) dX0_release_9 (fun H locs hz2 hd => ?_)
  refine lv_if_eq (tgt := 29) hx hb dX0_release_12 (by decide) (fun hc3 => ?_) (fun hc3 => ?_)
  · replace he := i_t hc3 he
    refine lv_aload_n hx hb dX0_release_29 rfl (lv_at hl 1 rfl) ?_
    refine rgetf C hd (lt_moor hj) (cC_moor hj) rfl tgX0 9 (by decide) uw121 rfl dX0_release_30 ?_
    refine lv_iload_n hx hb dX0_release_33 rfl (lv_at hl 2 rfl) ?_
    refine lv_iconst (v := (-1)) hx hb dX0_release_34 (by decide) ?_
    replace he := g_some he
    obtain ⟨hi4, he⟩ := he
    replace he := bv_ex he
    obtain ⟨V5, e5, he⟩ := he
    refine riast (cell' := (cC G) V5) C hd (lt_marr hj 6 (by decide)) (cC_marr hj 6 (by decide) (by decide)) hi4 (cC_marr_w hj 6 (by decide) (by decide) e5) (cC_ne e5) dX0_release_35 (fun H locs hd => ?_)
    refine lv_aload_n hx hb dX0_release_36 rfl (lv_at hl 1 rfl) ?_
    refine rgetf C hd (lt_moor hj) (cC_moor hj) rfl tgX0 10 (by decide) uw123 rfl dX0_release_37 ?_
    refine lv_iload_n hx hb dX0_release_40 rfl (lv_at hl 2 rfl) ?_
    refine lv_iconst (v := (-1)) hx hb dX0_release_41 (by decide) ?_
    replace he := g_some he
    obtain ⟨hi6, he⟩ := he
    replace he := bv_ex he
    obtain ⟨V7, e7, he⟩ := he
    refine riast (cell' := (cC G) V7) C hd (lt_marr hj 7 (by decide)) (cC_marr hj 7 (by decide) (by decide)) hi6 (cC_marr_w hj 7 (by decide) (by decide) e7) (cC_ne e7) dX0_release_42 (fun H locs hd => ?_)
    exact retVe (cf := (cC G)) C hr hlk hd he dX0_release_43
  · replace he := i_f hc3 he
    refine lv_aload_n hx hb dX0_release_15 rfl (lv_at hl 1 rfl) ?_
    refine rgetf C hd (lt_moor hj) (cC_moor hj) rfl tgX0 9 (by decide) uw121 rfl dX0_release_16 ?_
    refine lv_iload_n hx hb dX0_release_19 rfl (lv_at hl 0 rfl) ?_
    refine lv_iconst (v := (-1)) hx hb dX0_release_20 (by decide) ?_
    replace he := g_some he
    obtain ⟨hi8, he⟩ := he
    replace he := bv_ex he
    obtain ⟨V9, e9, he⟩ := he
    refine riast (cell' := (cC G) V9) C hd (lt_marr hj 6 (by decide)) (cC_marr hj 6 (by decide) (by decide)) hi8 (cC_marr_w hj 6 (by decide) (by decide) e9) (cC_ne e9) dX0_release_21 (fun H locs hd => ?_)
    refine lv_aload_n hx hb dX0_release_22 rfl (lv_at hl 1 rfl) ?_
    refine rgetf C hd (lt_moor hj) (cC_moor hj) rfl tgX0 10 (by decide) uw123 rfl dX0_release_23 ?_
    refine lv_iload_n hx hb dX0_release_26 rfl (lv_at hl 0 rfl) ?_
    refine lv_iconst (v := (-1)) hx hb dX0_release_27 (by decide) ?_
    replace he := g_some he
    obtain ⟨hi10, he⟩ := he
    replace he := bv_ex he
    obtain ⟨V11, e11, he⟩ := he
    refine riast (cell' := (cC G) V11) C hd (lt_marr hj 7 (by decide)) (cC_marr hj 7 (by decide) (by decide)) hi10 (cC_marr_w hj 7 (by decide) (by decide) e11) (cC_ne e11) dX0_release_28 (fun H locs hd => ?_)
    refine lv_aload_n hx hb dX0_release_29 rfl (lv_at hl 1 rfl) ?_
    refine rgetf C hd (lt_moor hj) (cC_moor hj) rfl tgX0 9 (by decide) uw121 rfl dX0_release_30 ?_
    refine lv_iload_n hx hb dX0_release_33 rfl (lv_at hl 2 rfl) ?_
    refine lv_iconst (v := (-1)) hx hb dX0_release_34 (by decide) ?_
    replace he := g_some he
    obtain ⟨hi12, he⟩ := he
    replace he := bv_ex he
    obtain ⟨V13, e13, he⟩ := he
    refine riast (cell' := (cC G) V13) C hd (lt_marr hj 6 (by decide)) (cC_marr hj 6 (by decide) (by decide)) hi12 (cC_marr_w hj 6 (by decide) (by decide) e13) (cC_ne e13) dX0_release_35 (fun H locs hd => ?_)
    refine lv_aload_n hx hb dX0_release_36 rfl (lv_at hl 1 rfl) ?_
    refine rgetf C hd (lt_moor hj) (cC_moor hj) rfl tgX0 10 (by decide) uw123 rfl dX0_release_37 ?_
    refine lv_iload_n hx hb dX0_release_40 rfl (lv_at hl 2 rfl) ?_
    refine lv_iconst (v := (-1)) hx hb dX0_release_41 (by decide) ?_
    replace he := g_some he
    obtain ⟨hi14, he⟩ := he
    replace he := bv_ex he
    obtain ⟨V15, e15, he⟩ := he
    refine riast (cell' := (cC G) V15) C hd (lt_marr hj 7 (by decide)) (cC_marr hj 7 (by decide) (by decide)) hi14 (cC_marr_w hj 7 (by decide) (by decide) e15) (cC_ne e15) dX0_release_42 (fun H locs hd => ?_)
    exact retVe (cf := (cC G)) C hr hlk hd he dX0_release_43
set_option maxRecDepth 100000 in
set_option maxHeartbeats 4000000 in
theorem c_X3_free (l : Launch) (G : Gd) (ks : Ks) (hJ : Inj 37 G.2.2) {a1 : Int32} {V V' : VV} {r : Int32} (he : f_X3_free a1 V = some (r, V')) : MI l 37 G (XC G ks) yX3_free cX3_free 3 2 43 [.ref (G.2.2 24), .int a1] (cC G V) (cC G V') r := by
  refine walk_of (own := RX3) (by decide) rfl hJ (xs_C G ks) (Nat.le_of_ble_eq_true rfl) ?_
  intro p e s m below meth c C hr hlk ls hl hd
  have hl : lv_has ls 3 [(0, .ref (G.2.2 24)), (1, .int a1)] := hl
  obtain ⟨⟨hx, hb, hml, hown, hts⟩, -⟩ := id C
  unfold f_X3_free at he
  refine lv_aload_n hx hb dX3_free_0 rfl (lv_at hl 0 rfl) ?_
  refine rgetf C hd (by decide) cC24 rfl tgX3 0 (by decide) uw199 rfl dX3_free_1 ?_
  refine lv_iload_n hx hb dX3_free_4 rfl (lv_at hl 1 rfl) ?_
  replace he := b_some he
  obtain ⟨⟨r1, V1⟩, h1, he⟩ := he
  refine kVZ C hd hl.1 kw_X3_76 (lt_moor (by decide)) (cC_moor (by decide)) rfl (c_X0_has l G ks hJ (by decide) h1) ⟨Nat.le_of_ble_eq_true rfl, Nat.le_of_ble_eq_true rfl⟩ rfl (rest := []) rfl (Nat.le_of_ble_eq_true rfl) dX3_free_5 (fun H locs hz1 hd => ?_)
  refine lv_if_ne (tgt := 18) hx hb dX3_free_8 (by decide) (fun hc2 => ?_) (fun hc2 => ?_)
  · replace he := i_f hc2 he
    refine lv_aload_n hx hb dX3_free_18 rfl (lv_at hl 0 rfl) ?_
    refine rgetf C hd (by decide) cC24 rfl tgX3 0 (by decide) uw199 rfl dX3_free_19 ?_
    refine lv_iload_n hx hb dX3_free_22 rfl (lv_at hl 1 rfl) ?_
    replace he := b_some he
    obtain ⟨⟨r3, V3⟩, h3, he⟩ := he
    refine kVZ C hd hl.1 kw_X3_106 (lt_moor (by decide)) (cC_moor (by decide)) rfl (c_X0_isFree l G ks hJ (by decide) h3) ⟨Nat.le_of_ble_eq_true rfl, Nat.le_of_ble_eq_true rfl⟩ rfl (rest := []) rfl (Nat.le_of_ble_eq_true rfl) dX3_free_23 (fun H locs hz3 hd => ?_)
    refine lv_if_eq (tgt := 36) hx hb dX3_free_26 (by decide) (fun hc4 => ?_) (fun hc4 => ?_)
    · replace he := i_t hc4 he
      refine lv_aload_n hx hb dX3_free_36 rfl (lv_at hl 0 rfl) ?_
      refine rgetf C hd (by decide) cC24 rfl tgX3 0 (by decide) uw199 rfl dX3_free_37 ?_
      refine rgetf C hd (lt_moor (by decide)) (cC_moor (by decide)) rfl tgX0 9 (by decide) uw122 rfl dX3_free_40 ?_
      refine lv_iload_n hx hb dX3_free_43 rfl (lv_at hl 1 rfl) ?_
      replace he := g_some he
      obtain ⟨hi5, he⟩ := he
      refine riald C hd (lt_marr (by decide) 6 (by decide)) (cC_marr (by decide) 6 (by decide) (by decide)) hi5 dX3_free_44 ?_
      refine lv_istore_n (lv' := [(2, .int _), (0, .ref _), (1, .int _)]) hx hb dX3_free_45 rfl hl (by decide) rfl (fun ls hl => ?_)
      refine lv_aload_n hx hb dX3_free_46 rfl (lv_at hl 1 rfl) ?_
      refine rgetf C hd (by decide) cC24 rfl tgX3 0 (by decide) uw199 rfl dX3_free_47 ?_
      refine lv_iload_n hx hb dX3_free_50 rfl (lv_at hl 2 rfl) ?_
      replace he := b_some he
      obtain ⟨V6, h6, he⟩ := he
      refine kVV C hd hl.1 kw_X3_113 (lt_moor (by decide)) (cC_moor (by decide)) rfl (c_X0_release l G ks hJ (by decide) h6) ⟨Nat.le_of_ble_eq_true rfl, Nat.le_of_ble_eq_true rfl⟩ rfl (rest := []) rfl (Nat.le_of_ble_eq_true rfl) dX3_free_51 (fun H locs hd => ?_)
      refine lv_iload_n hx hb dX3_free_54 rfl (lv_at hl 0 rfl) ?_
      exact retIe (cf := (cC G)) C hr hlk hd he dX3_free_55
    · replace he := i_f hc4 he
      refine lv_aload_n hx hb dX3_free_29 rfl (lv_at hl 0 rfl) ?_
      refine lv_ldc hx hb hown (hts _ uw325) dX3_free_30 ?_
      replace he := b_some he
      obtain ⟨⟨r7, V7⟩, h7, he⟩ := he
      refine kVI C hd hl.1 kw_X3_46 (by decide) cC24 rfl (c_X3_finding l G ks hJ h7) ⟨Nat.le_of_ble_eq_true rfl, Nat.le_of_ble_eq_true rfl⟩ rfl (rest := []) rfl (Nat.le_of_ble_eq_true rfl) dX3_free_32 (fun H locs hd => ?_)
      exact retIe (cf := (cC G)) C hr hlk hd he dX3_free_35
  · replace he := i_t hc2 he
    refine lv_aload_n hx hb dX3_free_11 rfl (lv_at hl 0 rfl) ?_
    refine lv_ldc hx hb hown (hts _ uw226) dX3_free_12 ?_
    replace he := b_some he
    obtain ⟨⟨r8, V8⟩, h8, he⟩ := he
    refine kVI C hd hl.1 kw_X3_46 (by decide) cC24 rfl (c_X3_finding l G ks hJ h8) ⟨Nat.le_of_ble_eq_true rfl, Nat.le_of_ble_eq_true rfl⟩ rfl (rest := []) rfl (Nat.le_of_ble_eq_true rfl) dX3_free_14 (fun H locs hd => ?_)
    exact retIe (cf := (cC G)) C hr hlk hd he dX3_free_17
set_option maxRecDepth 100000 in
set_option maxHeartbeats 4000000 in
theorem c_X3_areTwo (l : Launch) (G : Gd) (ks : Ks) (hJ : Inj 37 G.2.2) {a1 : Int32} {a2 : Int32} {V V' : VV} {r : Int32} (he : f_X3_areTwo a1 a2 V = some (r, V')) : MZ l 37 G (XC G ks) yX3_areTwo cX3_areTwo 3 1 21 [.ref (G.2.2 24), .int a1, .int a2] (cC G V) (cC G V') r := by
  refine walk_of (own := RX3) (by decide) rfl hJ (xs_C G ks) (Nat.le_of_ble_eq_true rfl) ?_
  intro p e s m below meth c C hr hlk ls hl hd
  have hl : lv_has ls 3 [(0, .ref (G.2.2 24)), (1, .int a1), (2, .int a2)] := hl
  obtain ⟨⟨hx, hb, hml, hown, hts⟩, -⟩ := id C
  unfold f_X3_areTwo at he
  refine lv_aload_n hx hb dX3_areTwo_0 rfl (lv_at hl 0 rfl) ?_
  refine rgetf C hd (by decide) cC24 rfl tgX3 0 (by decide) uw199 rfl dX3_areTwo_1 ?_
  refine lv_iload_n hx hb dX3_areTwo_4 rfl (lv_at hl 1 rfl) ?_
  replace he := b_some he
  obtain ⟨⟨r1, V1⟩, h1, he⟩ := he
  refine kVZ C hd hl.1 kw_X3_76 (lt_moor (by decide)) (cC_moor (by decide)) rfl (c_X0_has l G ks hJ (by decide) h1) ⟨Nat.le_of_ble_eq_true rfl, Nat.le_of_ble_eq_true rfl⟩ rfl (rest := []) rfl (Nat.le_of_ble_eq_true rfl) dX3_areTwo_5 (fun H locs hz1 hd => ?_)
  refine lv_if_eq (tgt := 31) hx hb dX3_areTwo_8 (by decide) (fun hc2 => ?_) (fun hc2 => ?_)
  · replace he := i_t hc2 he
    refine lv_iconst (v := 0) hx hb dX3_areTwo_31 (by decide) ?_
    exact retZe (cf := (cC G)) C hr hlk hd rfl he dX3_areTwo_32
  · replace he := i_f hc2 he
    refine lv_aload_n hx hb dX3_areTwo_11 rfl (lv_at hl 0 rfl) ?_
    refine rgetf C hd (by decide) cC24 rfl tgX3 0 (by decide) uw199 rfl dX3_areTwo_12 ?_
    refine lv_iload_n hx hb dX3_areTwo_15 rfl (lv_at hl 2 rfl) ?_
    replace he := b_some he
    obtain ⟨⟨r3, V3⟩, h3, he⟩ := he
    refine kVZ C hd hl.1 kw_X3_76 (lt_moor (by decide)) (cC_moor (by decide)) rfl (c_X0_has l G ks hJ (by decide) h3) ⟨Nat.le_of_ble_eq_true rfl, Nat.le_of_ble_eq_true rfl⟩ rfl (rest := []) rfl (Nat.le_of_ble_eq_true rfl) dX3_areTwo_16 (fun H locs hz3 hd => ?_)
    refine lv_if_eq (tgt := 31) hx hb dX3_areTwo_19 (by decide) (fun hc4 => ?_) (fun hc4 => ?_)
    · replace he := i_t hc4 he
      refine lv_iconst (v := 0) hx hb dX3_areTwo_31 (by decide) ?_
      exact retZe (cf := (cC G)) C hr hlk hd rfl he dX3_areTwo_32
    · replace he := i_f hc4 he
      refine lv_iload_n hx hb dX3_areTwo_22 rfl (lv_at hl 1 rfl) ?_
      refine lv_iload_n hx hb dX3_areTwo_23 rfl (lv_at hl 2 rfl) ?_
      refine lv_icmp_eq (tgt := 31) hx hb dX3_areTwo_24 (by decide) (fun hc5 => ?_) (fun hc5 => ?_)
      · replace he := i_t hc5 he
        refine lv_iconst (v := 0) hx hb dX3_areTwo_31 (by decide) ?_
        exact retZe (cf := (cC G)) C hr hlk hd rfl he dX3_areTwo_32
      · replace he := i_f hc5 he
        refine lv_iconst (v := 1) hx hb dX3_areTwo_27 (by decide) ?_
        refine lv_goto (tgt := 32) hx hb dX3_areTwo_28 (by decide) ?_
        exact retZe (cf := (cC G)) C hr hlk hd rfl he dX3_areTwo_32
set_option maxRecDepth 100000 in
set_option maxHeartbeats 4000000 in
theorem c_X0_keepTwo (l : Launch) (G : Gd) (ks : Ks) (hJ : Inj 37 G.2.2) {j : Nat} {a1 : Int32} {a2 : Int32} (hj : j < 3) {V V' : VV} (he : f_X0_keepTwo j a1 a2 V = some V') : MV l 37 G (XC G ks) yX0_keepTwo cX0_keepTwo 3 0 0 [.ref (G.2.2 (8 * j)), .int a1, .int a2] (cC G V) (cC G V') := by
  refine walk_of (own := RX0) (by decide) rfl hJ (xs_C G ks) (Nat.le_of_ble_eq_true rfl) ?_
  intro p e s m below meth c C hr hlk ls hl hd
  have hl : lv_has ls 3 [(0, .ref (G.2.2 (8 * j))), (1, .int a1), (2, .int a2)] := hl
  obtain ⟨⟨hx, hb, hml, hown, hts⟩, -⟩ := id C
  unfold f_X0_keepTwo at he
  refine lv_aload_n hx hb dX0_keepTwo_0 rfl (lv_at hl 0 rfl) ?_
  refine rgetf C hd (lt_moor hj) (cC_moor hj) rfl tgX0 9 (by decide) uw121 rfl dX0_keepTwo_1 ?_
  refine lv_iload_n hx hb dX0_keepTwo_4 rfl (lv_at hl 1 rfl) ?_
  refine lv_iload_n hx hb dX0_keepTwo_5 rfl (lv_at hl 2 rfl) ?_
  replace he := g_some he
  obtain ⟨hi1, he⟩ := he
  replace he := bv_ex he
  obtain ⟨V2, e2, he⟩ := he
  refine riast (cell' := (cC G) V2) C hd (lt_marr hj 6 (by decide)) (cC_marr hj 6 (by decide) (by decide)) hi1 (cC_marr_w hj 6 (by decide) (by decide) e2) (cC_ne e2) dX0_keepTwo_6 (fun H locs hd => ?_)
  refine lv_aload_n hx hb dX0_keepTwo_7 rfl (lv_at hl 0 rfl) ?_
  refine rgetf C hd (lt_moor hj) (cC_moor hj) rfl tgX0 10 (by decide) uw123 rfl dX0_keepTwo_8 ?_
  refine lv_iload_n hx hb dX0_keepTwo_11 rfl (lv_at hl 1 rfl) ?_
  refine lv_aload_n hx hb dX0_keepTwo_12 rfl (lv_at hl 0 rfl) ?_
  refine rgetf C hd (lt_moor hj) (cC_moor hj) rfl tgX0 8 (by decide) uw118 rfl dX0_keepTwo_13 ?_
  refine lv_iload_n hx hb dX0_keepTwo_16 rfl (lv_at hl 2 rfl) ?_
  replace he := g_some he
  obtain ⟨hi3, he⟩ := he
  refine riald C hd (lt_marr hj 5 (by decide)) (cC_marr hj 5 (by decide) (by decide)) hi3 dX0_keepTwo_17 ?_
  replace he := g_some he
  obtain ⟨hi4, he⟩ := he
  replace he := bv_ex he
  obtain ⟨V5, e5, he⟩ := he
  refine riast (cell' := (cC G) V5) C hd (lt_marr hj 7 (by decide)) (cC_marr hj 7 (by decide) (by decide)) hi4 (cC_marr_w hj 7 (by decide) (by decide) e5) (cC_ne e5) dX0_keepTwo_18 (fun H locs hd => ?_)
  refine lv_aload_n hx hb dX0_keepTwo_19 rfl (lv_at hl 0 rfl) ?_
  refine rgetf C hd (lt_moor hj) (cC_moor hj) rfl tgX0 9 (by decide) uw121 rfl dX0_keepTwo_20 ?_
  refine lv_iload_n hx hb dX0_keepTwo_23 rfl (lv_at hl 2 rfl) ?_
  refine lv_iload_n hx hb dX0_keepTwo_24 rfl (lv_at hl 1 rfl) ?_
  replace he := g_some he
  obtain ⟨hi6, he⟩ := he
  replace he := bv_ex he
  obtain ⟨V7, e7, he⟩ := he
  refine riast (cell' := (cC G) V7) C hd (lt_marr hj 6 (by decide)) (cC_marr hj 6 (by decide) (by decide)) hi6 (cC_marr_w hj 6 (by decide) (by decide) e7) (cC_ne e7) dX0_keepTwo_25 (fun H locs hd => ?_)
  refine lv_aload_n hx hb dX0_keepTwo_26 rfl (lv_at hl 0 rfl) ?_
  refine rgetf C hd (lt_moor hj) (cC_moor hj) rfl tgX0 10 (by decide) uw123 rfl dX0_keepTwo_27 ?_
  refine lv_iload_n hx hb dX0_keepTwo_30 rfl (lv_at hl 2 rfl) ?_
  refine lv_aload_n hx hb dX0_keepTwo_31 rfl (lv_at hl 0 rfl) ?_
  refine rgetf C hd (lt_moor hj) (cC_moor hj) rfl tgX0 8 (by decide) uw118 rfl dX0_keepTwo_32 ?_
  refine lv_iload_n hx hb dX0_keepTwo_35 rfl (lv_at hl 1 rfl) ?_
  replace he := g_some he
  obtain ⟨hi8, he⟩ := he
  refine riald C hd (lt_marr hj 5 (by decide)) (cC_marr hj 5 (by decide) (by decide)) hi8 dX0_keepTwo_36 ?_
  replace he := g_some he
  obtain ⟨hi9, he⟩ := he
  replace he := bv_ex he
  obtain ⟨V10, e10, he⟩ := he
  refine riast (cell' := (cC G) V10) C hd (lt_marr hj 7 (by decide)) (cC_marr hj 7 (by decide) (by decide)) hi9 (cC_marr_w hj 7 (by decide) (by decide) e10) (cC_ne e10) dX0_keepTwo_37 (fun H locs hd => ?_)
  exact retVe (cf := (cC G)) C hr hlk hd he dX0_keepTwo_38
set_option maxRecDepth 100000 in
set_option maxHeartbeats 4000000 in
theorem c_X0_keptSet (l : Launch) (G : Gd) (ks : Ks) (hJ : Inj 37 G.2.2) {j : Nat} (hj : j < 3) {V V' : VV} {r : Int32} (he : f_X0_keptSet j V = some (r, V')) : MI l 37 G (XC G ks) yX0_keptSet cX0_keptSet 3 1 21 [.ref (G.2.2 (8 * j))] (cC G V) (cC G V') r := by
  refine walk_of (own := RX0) (by decide) rfl hJ (xs_C G ks) (Nat.le_of_ble_eq_true rfl) ?_
  intro p e s m below meth c C hr hlk ls hl hd
  have hl : lv_has ls 3 [(0, .ref (G.2.2 (8 * j)))] := hl
  obtain ⟨⟨hx, hb, hml, hown, hts⟩, -⟩ := id C
  have L4 : ∀ (fuel : Nat), ∀ (x1 : Int32) (x2 : Int32) (V : VV) (H : Heap) (locs : List Loc) (ls : Array Slot), lv_has ls 3 [(0, .ref (G.2.2 (8 * j))), (1, .int x1), (2, .int x2)] → Dy 37 G (cC G V) s H locs → f_X0_keptSet_L4 j fuel x1 x2 V = some (r, V') → W p l e (rmF 1 21) s m ([.ref (G.2.2 (8 * j))] : List Value).toArray below meth c H locs 0 0 (MQ below (QI 37 G (cC G V') (fun r' => r' = r)) ([.ref (G.2.2 (8 * j))] : List Value).toArray s 0 0 (inA 37 G.2.2)) (F0 m 4 ls []) := by
    intro fuel
    induction fuel with
    | zero => intro x1 x2 V H locs ls hl hd he; simp [f_X0_keptSet_L4] at he
    | succ n ih4 =>
      intro x1 x2 V H locs ls hl hd he
      rw [f_X0_keptSet_L4] at he
      refine lv_iload_n hx hb dX0_keptSet_4 rfl (lv_at hl 2 rfl) ?_
      refine lv_aload_n hx hb dX0_keptSet_5 rfl (lv_at hl 0 rfl) ?_
      refine rgetf C hd (lt_moor hj) (cC_moor hj) rfl tgX0 3 (by decide) uw107 rfl dX0_keptSet_6 ?_
      refine lv_icmp_ge (tgt := 32) hx hb dX0_keptSet_9 (by decide) (fun hc1 => ?_) (fun hc1 => ?_)
      · replace he := i_t hc1 he
        refine lv_iload_n hx hb dX0_keptSet_32 rfl (lv_at hl 1 rfl) ?_
        exact retIe (cf := (cC G)) C hr hlk hd he dX0_keptSet_33
      · replace he := i_f hc1 he
        refine lv_aload_n hx hb dX0_keptSet_12 rfl (lv_at hl 0 rfl) ?_
        refine lv_iload_n hx hb dX0_keptSet_13 rfl (lv_at hl 2 rfl) ?_
        replace he := b_some he
        obtain ⟨⟨r2, V2⟩, h2, he⟩ := he
        refine kVZ C hd hl.1 kw_X0_63 (lt_moor hj) (cC_moor hj) rfl (c_X0_isFree l G ks hJ hj h2) ⟨Nat.le_of_ble_eq_true rfl, Nat.le_of_ble_eq_true rfl⟩ rfl (rest := []) rfl (Nat.le_of_ble_eq_true rfl) dX0_keptSet_14 (fun H locs hz2 hd => ?_)
        refine lv_if_ne (tgt := 26) hx hb dX0_keptSet_17 (by decide) (fun hc3 => ?_) (fun hc3 => ?_)
        · replace he := i_f hc3 he
          refine lv_iinc (v := _ + 1) (lv' := [(2, .int _), (0, .ref _), (1, .int _)]) hx hb dX0_keptSet_26 hl (k := 2) rfl rfl (by decide) rfl (fun ls hl => ?_)
          refine lv_goto (tgt := 4) hx hb dX0_keptSet_29 (by decide) ?_
          exact ih4 _ _ _ _ _ _ (lv_sub hl [1, 2, 0] rfl) hd he
        · replace he := i_t hc3 he
          refine lv_iload_n hx hb dX0_keptSet_20 rfl (lv_at hl 1 rfl) ?_
          refine lv_iconst (v := 1) hx hb dX0_keptSet_21 (by decide) ?_
          refine lv_iload_n hx hb dX0_keptSet_22 rfl (lv_at hl 2 rfl) ?_
          refine lv_ishl hx hb dX0_keptSet_23 ?_
          refine lv_ior hx hb dX0_keptSet_24 ?_
          refine lv_istore_n (lv' := [(1, .int _), (0, .ref _), (2, .int _)]) hx hb dX0_keptSet_25 rfl hl (by decide) rfl (fun ls hl => ?_)
          refine lv_iinc (v := _ + 1) (lv' := [(2, .int _), (1, .int _), (0, .ref _)]) hx hb dX0_keptSet_26 hl (k := 2) rfl rfl (by decide) rfl (fun ls hl => ?_)
          refine lv_goto (tgt := 4) hx hb dX0_keptSet_29 (by decide) ?_
          exact ih4 _ _ _ _ _ _ (lv_sub hl [2, 1, 0] rfl) hd he
  unfold f_X0_keptSet at he
  refine lv_iconst (v := 0) hx hb dX0_keptSet_0 (by decide) ?_
  refine lv_istore_n (lv' := [(1, .int _), (0, .ref _)]) hx hb dX0_keptSet_1 rfl hl (by decide) rfl (fun ls hl => ?_)
  refine lv_iconst (v := 0) hx hb dX0_keptSet_2 (by decide) ?_
  refine lv_istore_n (lv' := [(2, .int _), (1, .int _), (0, .ref _)]) hx hb dX0_keptSet_3 rfl hl (by decide) rfl (fun ls hl => ?_)
  exact L4 200 _ _ _ _ _ _ (lv_sub hl [2, 1, 0] rfl) hd he
set_option maxRecDepth 100000 in
set_option maxHeartbeats 4000000 in
theorem c_J6_bitCount_0f7a4 (l : Launch) (G : Gd) (ks : Ks) (hJ : Inj 37 G.2.2) {a1 : Int32} {V V' : VV} {r : Int32} (he : f_J6_bitCount_0f7a4 a1 V = some (r, V')) : MI l 37 G (XC G ks) yJ6_bitCount_0f7a4 cJ6_bitCount_0f7a4 1 0 0 [.int a1] (cC G V) (cC G V') r := by
  refine walk_of (own := RJ6) (by decide) rfl hJ (xs_C G ks) (Nat.le_of_ble_eq_true rfl) ?_
  intro p e s m below meth c C hr hlk ls hl hd
  have hl : lv_has ls 1 [(0, .int a1)] := hl
  obtain ⟨⟨hx, hb, hml, hown, hts⟩, -⟩ := id C
  unfold f_J6_bitCount_0f7a4 at he
  refine lv_iload_n hx hb dJ6_bitCount_0f7a4_0 rfl (lv_at hl 0 rfl) ?_
  refine lv_iload_n hx hb dJ6_bitCount_0f7a4_1 rfl (lv_at hl 0 rfl) ?_
  refine lv_iconst (v := 1) hx hb dJ6_bitCount_0f7a4_2 (by decide) ?_
  refine lv_iushr hx hb dJ6_bitCount_0f7a4_3 rfl ?_
  refine lv_ldcw hx hb hown (hts _ uw350) dJ6_bitCount_0f7a4_4 ?_
  refine lv_iand hx hb dJ6_bitCount_0f7a4_7 ?_
  refine lv_isub hx hb dJ6_bitCount_0f7a4_8 ?_
  refine lv_istore_n (lv' := [(0, .int _)]) hx hb dJ6_bitCount_0f7a4_9 rfl hl (by decide) rfl (fun ls hl => ?_)
  refine lv_iload_n hx hb dJ6_bitCount_0f7a4_10 rfl (lv_at hl 0 rfl) ?_
  refine lv_ldcw hx hb hown (hts _ uw351) dJ6_bitCount_0f7a4_11 ?_
  refine lv_iand hx hb dJ6_bitCount_0f7a4_14 ?_
  refine lv_iload_n hx hb dJ6_bitCount_0f7a4_15 rfl (lv_at hl 0 rfl) ?_
  refine lv_iconst (v := 2) hx hb dJ6_bitCount_0f7a4_16 (by decide) ?_
  refine lv_iushr hx hb dJ6_bitCount_0f7a4_17 rfl ?_
  refine lv_ldcw hx hb hown (hts _ uw351) dJ6_bitCount_0f7a4_18 ?_
  refine lv_iand hx hb dJ6_bitCount_0f7a4_21 ?_
  refine lv_iadd hx hb dJ6_bitCount_0f7a4_22 ?_
  refine lv_istore_n (lv' := [(0, .int _)]) hx hb dJ6_bitCount_0f7a4_23 rfl hl (by decide) rfl (fun ls hl => ?_)
  refine lv_iload_n hx hb dJ6_bitCount_0f7a4_24 rfl (lv_at hl 0 rfl) ?_
  refine lv_iload_n hx hb dJ6_bitCount_0f7a4_25 rfl (lv_at hl 0 rfl) ?_
  refine lv_iconst (v := 4) hx hb dJ6_bitCount_0f7a4_26 (by decide) ?_
  refine lv_iushr hx hb dJ6_bitCount_0f7a4_27 rfl ?_
  refine lv_iadd hx hb dJ6_bitCount_0f7a4_28 ?_
  refine lv_ldcw hx hb hown (hts _ uw352) dJ6_bitCount_0f7a4_29 ?_
  refine lv_iand hx hb dJ6_bitCount_0f7a4_32 ?_
  refine lv_istore_n (lv' := [(0, .int _)]) hx hb dJ6_bitCount_0f7a4_33 rfl hl (by decide) rfl (fun ls hl => ?_)
  refine lv_iload_n hx hb dJ6_bitCount_0f7a4_34 rfl (lv_at hl 0 rfl) ?_
  refine lv_iload_n hx hb dJ6_bitCount_0f7a4_35 rfl (lv_at hl 0 rfl) ?_
  refine lv_bipush (v := 8) hx hb dJ6_bitCount_0f7a4_36 (by decide) ?_
  refine lv_iushr hx hb dJ6_bitCount_0f7a4_38 rfl ?_
  refine lv_iadd hx hb dJ6_bitCount_0f7a4_39 ?_
  refine lv_istore_n (lv' := [(0, .int _)]) hx hb dJ6_bitCount_0f7a4_40 rfl hl (by decide) rfl (fun ls hl => ?_)
  refine lv_iload_n hx hb dJ6_bitCount_0f7a4_41 rfl (lv_at hl 0 rfl) ?_
  refine lv_iload_n hx hb dJ6_bitCount_0f7a4_42 rfl (lv_at hl 0 rfl) ?_
  refine lv_bipush (v := 16) hx hb dJ6_bitCount_0f7a4_43 (by decide) ?_
  refine lv_iushr hx hb dJ6_bitCount_0f7a4_45 rfl ?_
  refine lv_iadd hx hb dJ6_bitCount_0f7a4_46 ?_
  refine lv_istore_n (lv' := [(0, .int _)]) hx hb dJ6_bitCount_0f7a4_47 rfl hl (by decide) rfl (fun ls hl => ?_)
  refine lv_iload_n hx hb dJ6_bitCount_0f7a4_48 rfl (lv_at hl 0 rfl) ?_
  refine lv_bipush (v := 63) hx hb dJ6_bitCount_0f7a4_49 (by decide) ?_
  refine lv_iand hx hb dJ6_bitCount_0f7a4_51 ?_
  exact retIe (cf := (cC G)) C hr hlk hd he dJ6_bitCount_0f7a4_52
set_option maxRecDepth 100000 in
set_option maxHeartbeats 4000000 in
theorem c_X3_keep (l : Launch) (G : Gd) (ks : Ks) (hJ : Inj 37 G.2.2) {a1 : Int32} {a2 : Int32} {V V' : VV} {r : Int32} (he : f_X3_keep a1 a2 V = some (r, V')) : MI l 37 G (XC G ks) yX3_keep cX3_keep 3 2 43 [.ref (G.2.2 24), .int a1, .int a2] (cC G V) (cC G V') r := by
  refine walk_of (own := RX3) (by decide) rfl hJ (xs_C G ks) (Nat.le_of_ble_eq_true rfl) ?_
  intro p e s m below meth c C hr hlk ls hl hd
  have hl : lv_has ls 3 [(0, .ref (G.2.2 24)), (1, .int a1), (2, .int a2)] := hl
  obtain ⟨⟨hx, hb, hml, hown, hts⟩, -⟩ := id C
  unfold f_X3_keep at he
  refine lv_aload_n hx hb dX3_keep_0 rfl (lv_at hl 0 rfl) ?_
  refine lv_iload_n hx hb dX3_keep_1 rfl (lv_at hl 1 rfl) ?_
  refine lv_iload_n hx hb dX3_keep_2 rfl (lv_at hl 2 rfl) ?_
  replace he := b_some he
  obtain ⟨⟨r1, V1⟩, h1, he⟩ := he
  refine kVZ C hd hl.1 kw_X3_117 (by decide) cC24 rfl (c_X3_areTwo l G ks hJ h1) ⟨Nat.le_of_ble_eq_true rfl, Nat.le_of_ble_eq_true rfl⟩ rfl (rest := []) rfl (Nat.le_of_ble_eq_true rfl) dX3_keep_3 (fun H locs hz1 hd => ?_)
  refine lv_if_ne (tgt := 16) hx hb dX3_keep_6 (by decide) (fun hc2 => ?_) (fun hc2 => ?_)
  · replace he := i_f hc2 he
    refine lv_aload_n hx hb dX3_keep_16 rfl (lv_at hl 0 rfl) ?_
    refine rgetf C hd (by decide) cC24 rfl tgX3 0 (by decide) uw199 rfl dX3_keep_17 ?_
    refine lv_iload_n hx hb dX3_keep_20 rfl (lv_at hl 1 rfl) ?_
    replace he := b_some he
    obtain ⟨⟨r3, V3⟩, h3, he⟩ := he
    refine kVZ C hd hl.1 kw_X3_106 (lt_moor (by decide)) (cC_moor (by decide)) rfl (c_X0_isFree l G ks hJ (by decide) h3) ⟨Nat.le_of_ble_eq_true rfl, Nat.le_of_ble_eq_true rfl⟩ rfl (rest := []) rfl (Nat.le_of_ble_eq_true rfl) dX3_keep_21 (fun H locs hz3 hd => ?_)
    refine lv_if_eq (tgt := 59) hx hb dX3_keep_24 (by decide) (fun hc4 => ?_) (fun hc4 => ?_)
    · replace he := i_t hc4 he
      refine lv_aload_n hx hb dX3_keep_59 rfl (lv_at hl 0 rfl) ?_
      refine lv_ldc hx hb hown (hts _ uw325) dX3_keep_60 ?_
      replace he := b_some he
      obtain ⟨⟨r5, V5⟩, h5, he⟩ := he
      refine kVI C hd hl.1 kw_X3_46 (by decide) cC24 rfl (c_X3_finding l G ks hJ h5) ⟨Nat.le_of_ble_eq_true rfl, Nat.le_of_ble_eq_true rfl⟩ rfl (rest := []) rfl (Nat.le_of_ble_eq_true rfl) dX3_keep_62 (fun H locs hd => ?_)
      exact retIe (cf := (cC G)) C hr hlk hd he dX3_keep_65
    · replace he := i_f hc4 he
      refine lv_aload_n hx hb dX3_keep_27 rfl (lv_at hl 0 rfl) ?_
      refine rgetf C hd (by decide) cC24 rfl tgX3 0 (by decide) uw199 rfl dX3_keep_28 ?_
      refine lv_iload_n hx hb dX3_keep_31 rfl (lv_at hl 2 rfl) ?_
      replace he := b_some he
      obtain ⟨⟨r6, V6⟩, h6, he⟩ := he
      refine kVZ C hd hl.1 kw_X3_106 (lt_moor (by decide)) (cC_moor (by decide)) rfl (c_X0_isFree l G ks hJ (by decide) h6) ⟨Nat.le_of_ble_eq_true rfl, Nat.le_of_ble_eq_true rfl⟩ rfl (rest := []) rfl (Nat.le_of_ble_eq_true rfl) dX3_keep_32 (fun H locs hz6 hd => ?_)
      refine lv_if_eq (tgt := 59) hx hb dX3_keep_35 (by decide) (fun hc7 => ?_) (fun hc7 => ?_)
      · replace he := i_t hc7 he
        refine lv_aload_n hx hb dX3_keep_59 rfl (lv_at hl 0 rfl) ?_
        refine lv_ldc hx hb hown (hts _ uw325) dX3_keep_60 ?_
        replace he := b_some he
        obtain ⟨⟨r8, V8⟩, h8, he⟩ := he
        refine kVI C hd hl.1 kw_X3_46 (by decide) cC24 rfl (c_X3_finding l G ks hJ h8) ⟨Nat.le_of_ble_eq_true rfl, Nat.le_of_ble_eq_true rfl⟩ rfl (rest := []) rfl (Nat.le_of_ble_eq_true rfl) dX3_keep_62 (fun H locs hd => ?_)
        exact retIe (cf := (cC G)) C hr hlk hd he dX3_keep_65
      · replace he := i_f hc7 he
        refine lv_aload_n hx hb dX3_keep_38 rfl (lv_at hl 0 rfl) ?_
        refine rgetf C hd (by decide) cC24 rfl tgX3 0 (by decide) uw199 rfl dX3_keep_39 ?_
        refine rgetf C hd (lt_moor (by decide)) (cC_moor (by decide)) rfl tgX0 5 (by decide) uw112 rfl dX3_keep_42 ?_
        refine lv_iload_n hx hb dX3_keep_45 rfl (lv_at hl 1 rfl) ?_
        replace he := g_some he
        obtain ⟨hi9, he⟩ := he
        refine riald C hd (lt_marr (by decide) 2 (by decide)) (cC_marr (by decide) 2 (by decide) (by decide)) hi9 dX3_keep_46 ?_
        refine lv_aload_n hx hb dX3_keep_47 rfl (lv_at hl 0 rfl) ?_
        refine rgetf C hd (by decide) cC24 rfl tgX3 0 (by decide) uw199 rfl dX3_keep_48 ?_
        refine rgetf C hd (lt_moor (by decide)) (cC_moor (by decide)) rfl tgX0 5 (by decide) uw112 rfl dX3_keep_51 ?_
        refine lv_iload_n hx hb dX3_keep_54 rfl (lv_at hl 2 rfl) ?_
        replace he := g_some he
        obtain ⟨hi10, he⟩ := he
        refine riald C hd (lt_marr (by decide) 2 (by decide)) (cC_marr (by decide) 2 (by decide) (by decide)) hi10 dX3_keep_55 ?_
        refine lv_icmp_eq (tgt := 66) hx hb dX3_keep_56 (by decide) (fun hc11 => ?_) (fun hc11 => ?_)
        · replace he := i_t hc11 he
          refine lv_aload_n hx hb dX3_keep_66 rfl (lv_at hl 0 rfl) ?_
          refine rgetf C hd (by decide) cC24 rfl tgX3 0 (by decide) uw199 rfl dX3_keep_67 ?_
          refine lv_iload_n hx hb dX3_keep_70 rfl (lv_at hl 1 rfl) ?_
          refine lv_iload_n hx hb dX3_keep_71 rfl (lv_at hl 2 rfl) ?_
          replace he := b_some he
          obtain ⟨V12, h12, he⟩ := he
          refine kVV C hd hl.1 kw_X3_123 (lt_moor (by decide)) (cC_moor (by decide)) rfl (c_X0_keepTwo l G ks hJ (by decide) h12) ⟨Nat.le_of_ble_eq_true rfl, Nat.le_of_ble_eq_true rfl⟩ rfl (rest := []) rfl (Nat.le_of_ble_eq_true rfl) dX3_keep_72 (fun H locs hd => ?_)
          refine lv_aload_n hx hb dX3_keep_75 rfl (lv_at hl 0 rfl) ?_
          refine rgetf C hd (by decide) cC24 rfl tgX3 0 (by decide) uw199 rfl dX3_keep_76 ?_
          replace he := b_some he
          obtain ⟨⟨r13, V13⟩, h13, he⟩ := he
          refine kVI C hd hl.1 kw_X3_126 (lt_moor (by decide)) (cC_moor (by decide)) rfl (c_X0_keptSet l G ks hJ (by decide) h13) ⟨Nat.le_of_ble_eq_true rfl, Nat.le_of_ble_eq_true rfl⟩ rfl (rest := []) rfl (Nat.le_of_ble_eq_true rfl) dX3_keep_79 (fun H locs hd => ?_)
          replace he := b_some he
          obtain ⟨⟨r14, V14⟩, h14, he⟩ := he
          refine kSI C hd hl.1 kw_X3_130 (c_J6_bitCount_0f7a4 l G ks hJ h14) ⟨Nat.le_of_ble_eq_true rfl, Nat.le_of_ble_eq_true rfl⟩ rfl (rest := []) rfl (Nat.le_of_ble_eq_true rfl) dX3_keep_82 (fun H locs hd => ?_)
          exact retIe (cf := (cC G)) C hr hlk hd he dX3_keep_85
        · replace he := i_f hc11 he
          refine lv_aload_n hx hb dX3_keep_59 rfl (lv_at hl 0 rfl) ?_
          refine lv_ldc hx hb hown (hts _ uw325) dX3_keep_60 ?_
          replace he := b_some he
          obtain ⟨⟨r15, V15⟩, h15, he⟩ := he
          refine kVI C hd hl.1 kw_X3_46 (by decide) cC24 rfl (c_X3_finding l G ks hJ h15) ⟨Nat.le_of_ble_eq_true rfl, Nat.le_of_ble_eq_true rfl⟩ rfl (rest := []) rfl (Nat.le_of_ble_eq_true rfl) dX3_keep_62 (fun H locs hd => ?_)
          exact retIe (cf := (cC G)) C hr hlk hd he dX3_keep_65
  · replace he := i_t hc2 he
    refine lv_aload_n hx hb dX3_keep_9 rfl (lv_at hl 0 rfl) ?_
    refine lv_ldc hx hb hown (hts _ uw226) dX3_keep_10 ?_
    replace he := b_some he
    obtain ⟨⟨r16, V16⟩, h16, he⟩ := he
    refine kVI C hd hl.1 kw_X3_46 (by decide) cC24 rfl (c_X3_finding l G ks hJ h16) ⟨Nat.le_of_ble_eq_true rfl, Nat.le_of_ble_eq_true rfl⟩ rfl (rest := []) rfl (Nat.le_of_ble_eq_true rfl) dX3_keep_12 (fun H locs hd => ?_)
    exact retIe (cf := (cC G)) C hr hlk hd he dX3_keep_15
set_option maxRecDepth 100000 in
set_option maxHeartbeats 4000000 in
theorem c_X0_isFoggy (l : Launch) (G : Gd) (ks : Ks) (hJ : Inj 37 G.2.2) {j : Nat} (hj : j < 3) {V V' : VV} {r : Int32} (he : f_X0_isFoggy j V = some (r, V')) : MZ l 37 G (XC G ks) yX0_isFoggy cX0_isFoggy 1 0 0 [.ref (G.2.2 (8 * j))] (cC G V) (cC G V') r := by
  refine walk_of (own := RX0) (by decide) rfl hJ (xs_C G ks) (Nat.le_of_ble_eq_true rfl) ?_
  intro p e s m below meth c C hr hlk ls hl hd
  have hl : lv_has ls 1 [(0, .ref (G.2.2 (8 * j)))] := hl
  obtain ⟨⟨hx, hb, hml, hown, hts⟩, -⟩ := id C
  unfold f_X0_isFoggy at he
  refine lv_aload_n hx hb dX0_isFoggy_0 rfl (lv_at hl 0 rfl) ?_
  refine rgetf C hd (lt_moor hj) (cC_moor hj) rfl tgX0 1 (by decide) uw101 rfl dX0_isFoggy_1 ?_
  refine lv_aload_n hx hb dX0_isFoggy_4 rfl (lv_at hl 0 rfl) ?_
  refine rgetf C hd (lt_moor hj) (cC_moor hj) rfl tgX0 0 (by decide) uw99 rfl dX0_isFoggy_5 ?_
  refine lv_bipush (v := 24) hx hb dX0_isFoggy_8 (by decide) ?_
  refine lv_irem hx hb dX0_isFoggy_10 (by decide) ?_
  refine lv_ishr hx hb dX0_isFoggy_11 ?_
  refine lv_iconst (v := 1) hx hb dX0_isFoggy_12 (by decide) ?_
  refine lv_iand hx hb dX0_isFoggy_13 ?_
  refine lv_iconst (v := 1) hx hb dX0_isFoggy_14 (by decide) ?_
  refine lv_icmp_ne (tgt := 22) hx hb dX0_isFoggy_15 (by decide) (fun hc1 => ?_) (fun hc1 => ?_)
  · replace he := i_f hc1 he
    refine lv_iconst (v := 0) hx hb dX0_isFoggy_22 (by decide) ?_
    exact retZe (cf := (cC G)) C hr hlk hd rfl he dX0_isFoggy_23
  · replace he := i_t hc1 he
    refine lv_iconst (v := 1) hx hb dX0_isFoggy_18 (by decide) ?_
    refine lv_goto (tgt := 23) hx hb dX0_isFoggy_19 (by decide) ?_
    exact retZe (cf := (cC G)) C hr hlk hd rfl he dX0_isFoggy_23
set_option maxRecDepth 100000 in
set_option maxHeartbeats 4000000 in
theorem c_X0_lift (l : Launch) (G : Gd) (ks : Ks) (hJ : Inj 37 G.2.2) {j : Nat} (hj : j < 3) {V V' : VV} (he : f_X0_lift j V = some V') : MV l 37 G (XC G ks) yX0_lift cX0_lift 2 0 0 [.ref (G.2.2 (8 * j))] (cC G V) (cC G V') := by
  refine walk_of (own := RX0) (by decide) rfl hJ (xs_C G ks) (Nat.le_of_ble_eq_true rfl) ?_
  intro p e s m below meth c C hr hlk ls hl hd
  have hl : lv_has ls 2 [(0, .ref (G.2.2 (8 * j)))] := hl
  obtain ⟨⟨hx, hb, hml, hown, hts⟩, -⟩ := id C
  have L2 : ∀ (fuel : Nat), ∀ (x1 : Int32) (V : VV) (H : Heap) (locs : List Loc) (ls : Array Slot), lv_has ls 2 [(0, .ref (G.2.2 (8 * j))), (1, .int x1)] → Dy 37 G (cC G V) s H locs → f_X0_lift_L2 j fuel x1 V = some V' → W p l e (rmF 0 0) s m ([.ref (G.2.2 (8 * j))] : List Value).toArray below meth c H locs 0 0 (MQ below (QV 37 G (cC G V')) ([.ref (G.2.2 (8 * j))] : List Value).toArray s 0 0 (inA 37 G.2.2)) (F0 m 2 ls []) := by
    intro fuel
    induction fuel with
    | zero => intro x1 V H locs ls hl hd he; simp [f_X0_lift_L2] at he
    | succ n ih2 =>
      intro x1 V H locs ls hl hd he
      rw [f_X0_lift_L2] at he
      refine lv_iload_n hx hb dX0_lift_2 rfl (lv_at hl 1 rfl) ?_
      refine lv_aload_n hx hb dX0_lift_3 rfl (lv_at hl 0 rfl) ?_
      refine rgetf C hd (lt_moor hj) (cC_moor hj) rfl tgX0 3 (by decide) uw107 rfl dX0_lift_4 ?_
      refine lv_icmp_ge (tgt := 43) hx hb dX0_lift_7 (by decide) (fun hc1 => ?_) (fun hc1 => ?_)
      · replace he := i_t hc1 he
        exact retVe (cf := (cC G)) C hr hlk hd he dX0_lift_43
      · replace he := i_f hc1 he
        refine lv_aload_n hx hb dX0_lift_10 rfl (lv_at hl 0 rfl) ?_
        refine rgetf C hd (lt_moor hj) (cC_moor hj) rfl tgX0 5 (by decide) uw111 rfl dX0_lift_11 ?_
        refine lv_iload_n hx hb dX0_lift_14 rfl (lv_at hl 1 rfl) ?_
        replace he := g_some he
        obtain ⟨hi2, he⟩ := he
        refine riald C hd (lt_marr hj 2 (by decide)) (cC_marr hj 2 (by decide) (by decide)) hi2 dX0_lift_15 ?_
        refine lv_aload_n hx hb dX0_lift_16 rfl (lv_at hl 0 rfl) ?_
        refine rgetf C hd (lt_moor hj) (cC_moor hj) rfl tgX0 2 (by decide) uw104 rfl dX0_lift_17 ?_
        refine lv_icmp_eq (tgt := 37) hx hb dX0_lift_20 (by decide) (fun hc3 => ?_) (fun hc3 => ?_)
        · replace he := i_t hc3 he
          refine lv_iinc (v := _ + 1) (lv' := [(1, .int _), (0, .ref _)]) hx hb dX0_lift_37 hl (k := 1) rfl rfl (by decide) rfl (fun ls hl => ?_)
          refine lv_goto (tgt := 2) hx hb dX0_lift_40 (by decide) ?_
          exact ih2 _ _ _ _ _ (lv_sub hl [1, 0] rfl) hd he
        · replace he := i_f hc3 he
          refine lv_aload_n hx hb dX0_lift_23 rfl (lv_at hl 0 rfl) ?_
          refine rgetf C hd (lt_moor hj) (cC_moor hj) rfl tgX0 9 (by decide) uw121 rfl dX0_lift_24 ?_
          refine lv_iload_n hx hb dX0_lift_27 rfl (lv_at hl 1 rfl) ?_
          refine lv_iconst (v := (-1)) hx hb dX0_lift_28 (by decide) ?_
          replace he := g_some he
          obtain ⟨hi4, he⟩ := he
          replace he := bv_ex he
          obtain ⟨V5, e5, he⟩ := he
          refine riast (cell' := (cC G) V5) C hd (lt_marr hj 6 (by decide)) (cC_marr hj 6 (by decide) (by decide)) hi4 (cC_marr_w hj 6 (by decide) (by decide) e5) (cC_ne e5) dX0_lift_29 (fun H locs hd => ?_)
          refine lv_aload_n hx hb dX0_lift_30 rfl (lv_at hl 0 rfl) ?_
          refine rgetf C hd (lt_moor hj) (cC_moor hj) rfl tgX0 10 (by decide) uw123 rfl dX0_lift_31 ?_
          refine lv_iload_n hx hb dX0_lift_34 rfl (lv_at hl 1 rfl) ?_
          refine lv_iconst (v := (-1)) hx hb dX0_lift_35 (by decide) ?_
          replace he := g_some he
          obtain ⟨hi6, he⟩ := he
          replace he := bv_ex he
          obtain ⟨V7, e7, he⟩ := he
          refine riast (cell' := (cC G) V7) C hd (lt_marr hj 7 (by decide)) (cC_marr hj 7 (by decide) (by decide)) hi6 (cC_marr_w hj 7 (by decide) (by decide) e7) (cC_ne e7) dX0_lift_36 (fun H locs hd => ?_)
          refine lv_iinc (v := _ + 1) (lv' := [(1, .int _), (0, .ref _)]) hx hb dX0_lift_37 hl (k := 1) rfl rfl (by decide) rfl (fun ls hl => ?_)
          refine lv_goto (tgt := 2) hx hb dX0_lift_40 (by decide) ?_
          exact ih2 _ _ _ _ _ (lv_sub hl [1, 0] rfl) hd he
  unfold f_X0_lift at he
  refine lv_iconst (v := 0) hx hb dX0_lift_0 (by decide) ?_
  refine lv_istore_n (lv' := [(1, .int _), (0, .ref _)]) hx hb dX0_lift_1 rfl hl (by decide) rfl (fun ls hl => ?_)
  exact L2 200 _ _ _ _ _ (lv_sub hl [1, 0] rfl) hd he
set_option maxRecDepth 100000 in
set_option maxHeartbeats 4000000 in
theorem c_X3_cellTowards (l : Launch) (G : Gd) (ks : Ks) (hJ : Inj 37 G.2.2) {a1 : Int32} {a2 : Int32} {V V' : VV} {r : Int32} (he : f_X3_cellTowards a1 a2 V = some (r, V')) : MI l 37 G (XC G ks) yX3_cellTowards cX3_cellTowards 2 0 0 [.int a1, .int a2] (cC G V) (cC G V') r := by
  refine walk_of (own := RX3) (by decide) rfl hJ (xs_C G ks) (Nat.le_of_ble_eq_true rfl) ?_
  intro p e s m below meth c C hr hlk ls hl hd
  have hl : lv_has ls 2 [(0, .int a1), (1, .int a2)] := hl
  obtain ⟨⟨hx, hb, hml, hown, hts⟩, -⟩ := id C
  unfold f_X3_cellTowards at he
  refine lv_iload_n hx hb dX3_cellTowards_0 rfl (lv_at hl 1 rfl) ?_
  replace he := ite_cases he
  rcases he with ⟨hc1, he⟩ | ⟨hc1, he⟩
  · refine rtabIn (k := 0) (off := 27) (tgt := 28) hx hb dX3_cellTowards_1 hc1 (by decide) (by decide) rfl (by decide) ?_
    refine lv_iload_n hx hb dX3_cellTowards_28 rfl (lv_at hl 0 rfl) ?_
    refine lv_bipush (v := 6) hx hb dX3_cellTowards_29 (by decide) ?_
    refine lv_icmp_lt (tgt := 41) hx hb dX3_cellTowards_31 (by decide) (fun hc2 => ?_) (fun hc2 => ?_)
    · replace he := i_t hc2 he
      refine lv_iconst (v := (-1)) hx hb dX3_cellTowards_41 (by decide) ?_
      exact retIe (cf := (cC G)) C hr hlk hd he dX3_cellTowards_42
    · replace he := i_f hc2 he
      refine lv_iload_n hx hb dX3_cellTowards_34 rfl (lv_at hl 0 rfl) ?_
      refine lv_bipush (v := 6) hx hb dX3_cellTowards_35 (by decide) ?_
      refine lv_isub hx hb dX3_cellTowards_37 ?_
      refine lv_goto (tgt := 42) hx hb dX3_cellTowards_38 (by decide) ?_
      exact retIe (cf := (cC G)) C hr hlk hd he dX3_cellTowards_42
  · replace he := ite_cases he
    rcases he with ⟨hc3, he⟩ | ⟨hc3, he⟩
    · refine rtabIn (k := 1) (off := 42) (tgt := 43) hx hb dX3_cellTowards_1 hc3 (by decide) (by decide) rfl (by decide) ?_
      refine lv_iload_n hx hb dX3_cellTowards_43 rfl (lv_at hl 0 rfl) ?_
      refine lv_bipush (v := 6) hx hb dX3_cellTowards_44 (by decide) ?_
      refine lv_irem hx hb dX3_cellTowards_46 (by decide) ?_
      refine lv_iconst (v := 5) hx hb dX3_cellTowards_47 (by decide) ?_
      refine lv_icmp_ge (tgt := 57) hx hb dX3_cellTowards_48 (by decide) (fun hc4 => ?_) (fun hc4 => ?_)
      · replace he := i_t hc4 he
        refine lv_iconst (v := (-1)) hx hb dX3_cellTowards_57 (by decide) ?_
        exact retIe (cf := (cC G)) C hr hlk hd he dX3_cellTowards_58
      · replace he := i_f hc4 he
        refine lv_iload_n hx hb dX3_cellTowards_51 rfl (lv_at hl 0 rfl) ?_
        refine lv_iconst (v := 1) hx hb dX3_cellTowards_52 (by decide) ?_
        refine lv_iadd hx hb dX3_cellTowards_53 ?_
        refine lv_goto (tgt := 58) hx hb dX3_cellTowards_54 (by decide) ?_
        exact retIe (cf := (cC G)) C hr hlk hd he dX3_cellTowards_58
    · replace he := ite_cases he
      rcases he with ⟨hc5, he⟩ | ⟨hc5, he⟩
      · refine rtabIn (k := 2) (off := 58) (tgt := 59) hx hb dX3_cellTowards_1 hc5 (by decide) (by decide) rfl (by decide) ?_
        refine lv_iload_n hx hb dX3_cellTowards_59 rfl (lv_at hl 0 rfl) ?_
        refine lv_bipush (v := 30) hx hb dX3_cellTowards_60 (by decide) ?_
        refine lv_icmp_ge (tgt := 72) hx hb dX3_cellTowards_62 (by decide) (fun hc6 => ?_) (fun hc6 => ?_)
        · replace he := i_t hc6 he
          refine lv_iconst (v := (-1)) hx hb dX3_cellTowards_72 (by decide) ?_
          exact retIe (cf := (cC G)) C hr hlk hd he dX3_cellTowards_73
        · replace he := i_f hc6 he
          refine lv_iload_n hx hb dX3_cellTowards_65 rfl (lv_at hl 0 rfl) ?_
          refine lv_bipush (v := 6) hx hb dX3_cellTowards_66 (by decide) ?_
          refine lv_iadd hx hb dX3_cellTowards_68 ?_
          refine lv_goto (tgt := 73) hx hb dX3_cellTowards_69 (by decide) ?_
          exact retIe (cf := (cC G)) C hr hlk hd he dX3_cellTowards_73
      · refine lv_tableOut (tgt := 74) hx hb dX3_cellTowards_1 (tbl_out (fun k k1 k2 => by rcases (show k = 0 ∨ k = 1 ∨ k = 2 by omega) with rfl | rfl | rfl <;> first | exact hc1 | exact hc3 | exact hc5)) (by decide) ?_
        refine lv_iload_n hx hb dX3_cellTowards_74 rfl (lv_at hl 0 rfl) ?_
        refine lv_bipush (v := 6) hx hb dX3_cellTowards_75 (by decide) ?_
        refine lv_irem hx hb dX3_cellTowards_77 (by decide) ?_
        refine lv_if_le (tgt := 87) hx hb dX3_cellTowards_78 (by decide) (fun hc7 => ?_) (fun hc7 => ?_)
        · replace he := i_t hc7 he
          refine lv_iconst (v := (-1)) hx hb dX3_cellTowards_87 (by decide) ?_
          exact retIe (cf := (cC G)) C hr hlk hd he dX3_cellTowards_88
        · replace he := i_f hc7 he
          refine lv_iload_n hx hb dX3_cellTowards_81 rfl (lv_at hl 0 rfl) ?_
          refine lv_iconst (v := 1) hx hb dX3_cellTowards_82 (by decide) ?_
          refine lv_isub hx hb dX3_cellTowards_83 ?_
          refine lv_goto (tgt := 88) hx hb dX3_cellTowards_84 (by decide) ?_
          exact retIe (cf := (cC G)) C hr hlk hd he dX3_cellTowards_88
set_option maxRecDepth 100000 in
set_option maxHeartbeats 4000000 in
theorem c_X0_go (l : Launch) (G : Gd) (ks : Ks) (hJ : Inj 37 G.2.2) {j : Nat} {a1 : Int32} (hj : j < 3) {V V' : VV} (he : f_X0_go j a1 V = some V') : MV l 37 G (XC G ks) yX0_go cX0_go 5 2 41 [.ref (G.2.2 (8 * j)), .int a1] (cC G V) (cC G V') := by
  refine walk_of (own := RX0) (by decide) rfl hJ (xs_C G ks) (Nat.le_of_ble_eq_true rfl) ?_
  intro p e s m below meth c C hr hlk ls hl hd
  have hl : lv_has ls 5 [(0, .ref (G.2.2 (8 * j))), (1, .int a1)] := hl
  obtain ⟨⟨hx, hb, hml, hown, hts⟩, -⟩ := id C
  have L44 : ∀ (fuel : Nat), ∀ (x1 : Int32) (x2 : Int32) (x3 : Int32) (V : VV) (H : Heap) (locs : List Loc) (ls : Array Slot), lv_has ls 5 [(0, .ref (G.2.2 (8 * j))), (1, .int x1), (2, .int x2), (3, .int x3)] → Dy 37 G (cC G V) s H locs → f_X0_go_L44 j fuel x1 x2 x3 V = some V' → W p l e (rmF 2 41) s m ([.ref (G.2.2 (8 * j)), .int a1] : List Value).toArray below meth c H locs 0 0 (MQ below (QV 37 G (cC G V')) ([.ref (G.2.2 (8 * j)), .int a1] : List Value).toArray s 0 0 (inA 37 G.2.2)) (F0 m 44 ls []) := by
    intro fuel
    induction fuel with
    | zero => intro x1 x2 x3 V H locs ls hl hd he; simp [f_X0_go_L44] at he
    | succ n ih44 =>
      intro x1 x2 x3 V H locs ls hl hd he
      rw [f_X0_go_L44] at he
      refine lv_iload_n hx hb dX0_go_44 rfl (lv_at hl 3 rfl) ?_
      refine lv_iload_n hx hb dX0_go_45 rfl (lv_at hl 2 rfl) ?_
      refine lv_icmp_ge (tgt := 104) hx hb dX0_go_46 (by decide) (fun hc8 => ?_) (fun hc8 => ?_)
      · replace he := i_t hc8 he
        exact retVe (cf := (cC G)) C hr hlk hd he dX0_go_104
      · replace he := i_f hc8 he
        refine lv_aload_n hx hb dX0_go_49 rfl (lv_at hl 0 rfl) ?_
        refine rgetf C hd (lt_moor hj) (cC_moor hj) rfl tgX0 5 (by decide) uw111 rfl dX0_go_50 ?_
        refine lv_iload_n hx hb dX0_go_53 rfl (lv_at hl 1 rfl) ?_
        replace he := g_some he
        obtain ⟨hi9, he⟩ := he
        refine riald C hd (lt_marr hj 2 (by decide)) (cC_marr hj 2 (by decide) (by decide)) hi9 dX0_go_54 ?_
        refine lv_aload_n hx hb dX0_go_55 rfl (lv_at hl 0 rfl) ?_
        refine rgetf C hd (lt_moor hj) (cC_moor hj) rfl tgX0 7 (by decide) uw115 rfl dX0_go_56 ?_
        refine lv_iload_n hx hb dX0_go_59 rfl (lv_at hl 1 rfl) ?_
        replace he := g_some he
        obtain ⟨hi10, he⟩ := he
        refine riald C hd (lt_marr hj 4 (by decide)) (cC_marr hj 4 (by decide) (by decide)) hi10 dX0_go_60 ?_
        replace he := b_some he
        obtain ⟨⟨r11, V11⟩, h11, he⟩ := he
        refine kNI C hd hl.1 kw_X0_92 C.2.2.2.2.2.2.2.2.2.2.2.2 (c_X3_cellTowards l G ks hJ h11) ⟨Nat.le_of_ble_eq_true rfl, Nat.le_of_ble_eq_true rfl⟩ rfl (rest := []) rfl (Nat.le_of_ble_eq_true rfl) dX0_go_61 (fun H locs hd => ?_)
        refine lv_istore (lv' := [(4, .int _), (0, .ref _), (1, .int _), (2, .int _), (3, .int _)]) hx hb dX0_go_64 hl (by decide) rfl (fun ls hl => ?_)
        refine lv_iload hx hb dX0_go_66 (lv_at hl 0 rfl) ?_
        refine lv_if_lt (tgt := 82) hx hb dX0_go_68 (by decide) (fun hc12 => ?_) (fun hc12 => ?_)
        · replace he := i_t hc12 he
          refine lv_aload_n hx hb dX0_go_82 rfl (lv_at hl 1 rfl) ?_
          refine rgetf C hd (lt_moor hj) (cC_moor hj) rfl tgX0 7 (by decide) uw115 rfl dX0_go_83 ?_
          refine lv_iload_n hx hb dX0_go_86 rfl (lv_at hl 2 rfl) ?_
          refine lv_aload_n hx hb dX0_go_87 rfl (lv_at hl 1 rfl) ?_
          refine rgetf C hd (lt_moor hj) (cC_moor hj) rfl tgX0 7 (by decide) uw115 rfl dX0_go_88 ?_
          refine lv_iload_n hx hb dX0_go_91 rfl (lv_at hl 2 rfl) ?_
          replace he := g_some he
          obtain ⟨hi13, he⟩ := he
          refine riald C hd (lt_marr hj 4 (by decide)) (cC_marr hj 4 (by decide) (by decide)) hi13 dX0_go_92 ?_
          refine lv_iconst (v := 1) hx hb dX0_go_93 (by decide) ?_
          refine lv_iadd hx hb dX0_go_94 ?_
          refine lv_iconst (v := 4) hx hb dX0_go_95 (by decide) ?_
          refine lv_irem hx hb dX0_go_96 (by decide) ?_
          replace he := g_some he
          obtain ⟨hi14, he⟩ := he
          replace he := bv_ex he
          obtain ⟨V15, e15, he⟩ := he
          refine riast (cell' := (cC G) V15) C hd (lt_marr hj 4 (by decide)) (cC_marr hj 4 (by decide) (by decide)) hi14 (cC_marr_w hj 4 (by decide) (by decide) e15) (cC_ne e15) dX0_go_97 (fun H locs hd => ?_)
          refine lv_iinc (v := _ + 1) (lv' := [(3, .int _), (4, .int _), (0, .ref _), (1, .int _), (2, .int _)]) hx hb dX0_go_98 hl (k := 4) rfl rfl (by decide) rfl (fun ls hl => ?_)
          refine lv_goto (tgt := 44) hx hb dX0_go_101 (by decide) ?_
          exact ih44 _ _ _ _ _ _ _ (lv_sub hl [2, 3, 4, 0] rfl) hd he
        · replace he := i_f hc12 he
          refine lv_aload_n hx hb dX0_go_71 rfl (lv_at hl 1 rfl) ?_
          refine rgetf C hd (lt_moor hj) (cC_moor hj) rfl tgX0 5 (by decide) uw111 rfl dX0_go_72 ?_
          refine lv_iload_n hx hb dX0_go_75 rfl (lv_at hl 2 rfl) ?_
          refine lv_iload hx hb dX0_go_76 (lv_at hl 0 rfl) ?_
          replace he := g_some he
          obtain ⟨hi16, he⟩ := he
          replace he := bv_ex he
          obtain ⟨V17, e17, he⟩ := he
          refine riast (cell' := (cC G) V17) C hd (lt_marr hj 2 (by decide)) (cC_marr hj 2 (by decide) (by decide)) hi16 (cC_marr_w hj 2 (by decide) (by decide) e17) (cC_ne e17) dX0_go_78 (fun H locs hd => ?_)
          refine lv_goto (tgt := 98) hx hb dX0_go_79 (by decide) ?_
          refine lv_iinc (v := _ + 1) (lv' := [(3, .int _), (4, .int _), (0, .ref _), (1, .int _), (2, .int _)]) hx hb dX0_go_98 hl (k := 4) rfl rfl (by decide) rfl (fun ls hl => ?_)
          refine lv_goto (tgt := 44) hx hb dX0_go_101 (by decide) ?_
          exact ih44 _ _ _ _ _ _ _ (lv_sub hl [2, 3, 4, 0] rfl) hd he
  unfold f_X0_go at he
  refine lv_aload_n hx hb dX0_go_0 rfl (lv_at hl 0 rfl) ?_
  refine rgetf C hd (lt_moor hj) (cC_moor hj) rfl tgX0 7 (by decide) uw115 rfl dX0_go_1 ?_
  refine lv_iload_n hx hb dX0_go_4 rfl (lv_at hl 1 rfl) ?_
  refine lv_aload_n hx hb dX0_go_5 rfl (lv_at hl 0 rfl) ?_
  refine rgetf C hd (lt_moor hj) (cC_moor hj) rfl tgX0 7 (by decide) uw115 rfl dX0_go_6 ?_
  refine lv_iload_n hx hb dX0_go_9 rfl (lv_at hl 1 rfl) ?_
  replace he := g_some he
  obtain ⟨hi1, he⟩ := he
  refine riald C hd (lt_marr hj 4 (by decide)) (cC_marr hj 4 (by decide) (by decide)) hi1 dX0_go_10 ?_
  refine lv_aload_n hx hb dX0_go_11 rfl (lv_at hl 0 rfl) ?_
  refine rgetf C hd (lt_moor hj) (cC_moor hj) rfl tgX0 4 (by decide) uw109 rfl dX0_go_12 ?_
  refine lv_iload_n hx hb dX0_go_15 rfl (lv_at hl 1 rfl) ?_
  replace he := g_some he
  obtain ⟨hi2, he⟩ := he
  refine riald C hd (lt_marr hj 1 (by decide)) (cC_marr hj 1 (by decide) (by decide)) hi2 dX0_go_16 ?_
  refine lv_aload_n hx hb dX0_go_17 rfl (lv_at hl 0 rfl) ?_
  refine rgetf C hd (lt_moor hj) (cC_moor hj) rfl tgX0 0 (by decide) uw99 rfl dX0_go_18 ?_
  replace he := b_some he
  obtain ⟨⟨r3, V3⟩, h3, he⟩ := he
  refine kNI C hd hl.1 kw_X0_60 C.2.2.2.2.2.2.2.2.2.2.2.1 (c_X3_turnsOf l G ks hJ h3) ⟨Nat.le_of_ble_eq_true rfl, Nat.le_of_ble_eq_true rfl⟩ rfl (rest := [.int _, .int _, .ref _]) rfl (Nat.le_of_ble_eq_true rfl) dX0_go_21 (fun H locs hd => ?_)
  refine lv_iadd hx hb dX0_go_24 ?_
  refine lv_iconst (v := 4) hx hb dX0_go_25 (by decide) ?_
  refine lv_irem hx hb dX0_go_26 (by decide) ?_
  replace he := g_some he
  obtain ⟨hi4, he⟩ := he
  replace he := bv_ex he
  obtain ⟨V5, e5, he⟩ := he
  refine riast (cell' := (cC G) V5) C hd (lt_marr hj 4 (by decide)) (cC_marr hj 4 (by decide) (by decide)) hi4 (cC_marr_w hj 4 (by decide) (by decide) e5) (cC_ne e5) dX0_go_27 (fun H locs hd => ?_)
  refine lv_aload_n hx hb dX0_go_28 rfl (lv_at hl 0 rfl) ?_
  refine rgetf C hd (lt_moor hj) (cC_moor hj) rfl tgX0 4 (by decide) uw109 rfl dX0_go_29 ?_
  refine lv_iload_n hx hb dX0_go_32 rfl (lv_at hl 1 rfl) ?_
  replace he := g_some he
  obtain ⟨hi6, he⟩ := he
  refine riald C hd (lt_marr hj 1 (by decide)) (cC_marr hj 1 (by decide) (by decide)) hi6 dX0_go_33 ?_
  refine lv_aload_n hx hb dX0_go_34 rfl (lv_at hl 0 rfl) ?_
  refine rgetf C hd (lt_moor hj) (cC_moor hj) rfl tgX0 0 (by decide) uw99 rfl dX0_go_35 ?_
  replace he := b_some he
  obtain ⟨⟨r7, V7⟩, h7, he⟩ := he
  refine kNI C hd hl.1 kw_X0_56 C.2.2.2.2.2.2.2.2.2.2.1 (c_X3_stepsOf l G ks hJ h7) ⟨Nat.le_of_ble_eq_true rfl, Nat.le_of_ble_eq_true rfl⟩ rfl (rest := []) rfl (Nat.le_of_ble_eq_true rfl) dX0_go_38 (fun H locs hd => ?_)
  refine lv_istore_n (lv' := [(2, .int _), (0, .ref _), (1, .int _)]) hx hb dX0_go_41 rfl hl (by decide) rfl (fun ls hl => ?_)
  refine lv_iconst (v := 0) hx hb dX0_go_42 (by decide) ?_
  refine lv_istore_n (lv' := [(3, .int _), (2, .int _), (0, .ref _), (1, .int _)]) hx hb dX0_go_43 rfl hl (by decide) rfl (fun ls hl => ?_)
  exact L44 200 _ _ _ _ _ _ _ (lv_sub hl [2, 3, 1, 0] rfl) hd he
set_option maxRecDepth 100000 in
set_option maxHeartbeats 4000000 in
theorem c_X0_nextFreeBeside (l : Launch) (G : Gd) (ks : Ks) (hJ : Inj 37 G.2.2) {j : Nat} {a1 : Int32} (hj : j < 3) {V V' : VV} {r : Int32} (he : f_X0_nextFreeBeside j a1 V = some (r, V')) : MI l 37 G (XC G ks) yX0_nextFreeBeside cX0_nextFreeBeside 3 1 21 [.ref (G.2.2 (8 * j)), .int a1] (cC G V) (cC G V') r := by
  refine walk_of (own := RX0) (by decide) rfl hJ (xs_C G ks) (Nat.le_of_ble_eq_true rfl) ?_
  intro p e s m below meth c C hr hlk ls hl hd
  have hl : lv_has ls 3 [(0, .ref (G.2.2 (8 * j))), (1, .int a1)] := hl
  obtain ⟨⟨hx, hb, hml, hown, hts⟩, -⟩ := id C
  have L4 : ∀ (fuel : Nat), ∀ (x1 : Int32) (x2 : Int32) (V : VV) (H : Heap) (locs : List Loc) (ls : Array Slot), lv_has ls 3 [(0, .ref (G.2.2 (8 * j))), (1, .int x1), (2, .int x2)] → Dy 37 G (cC G V) s H locs → f_X0_nextFreeBeside_L4 j fuel x1 x2 V = some (r, V') → W p l e (rmF 1 21) s m ([.ref (G.2.2 (8 * j)), .int a1] : List Value).toArray below meth c H locs 0 0 (MQ below (QI 37 G (cC G V') (fun r' => r' = r)) ([.ref (G.2.2 (8 * j)), .int a1] : List Value).toArray s 0 0 (inA 37 G.2.2)) (F0 m 4 ls []) := by
    intro fuel
    induction fuel with
    | zero => intro x1 x2 V H locs ls hl hd he; simp [f_X0_nextFreeBeside_L4] at he
    | succ n ih4 =>
      intro x1 x2 V H locs ls hl hd he
      rw [f_X0_nextFreeBeside_L4] at he
      refine lv_iload_n hx hb dX0_nextFreeBeside_4 rfl (lv_at hl 2 rfl) ?_
      refine lv_aload_n hx hb dX0_nextFreeBeside_5 rfl (lv_at hl 0 rfl) ?_
      refine rgetf C hd (lt_moor hj) (cC_moor hj) rfl tgX0 3 (by decide) uw107 rfl dX0_nextFreeBeside_6 ?_
      refine lv_icmp_ge (tgt := 43) hx hb dX0_nextFreeBeside_9 (by decide) (fun hc1 => ?_) (fun hc1 => ?_)
      · replace he := i_t hc1 he
        refine lv_iconst (v := (-1)) hx hb dX0_nextFreeBeside_43 (by decide) ?_
        exact retIe (cf := (cC G)) C hr hlk hd he dX0_nextFreeBeside_44
      · replace he := i_f hc1 he
        refine lv_aload_n hx hb dX0_nextFreeBeside_12 rfl (lv_at hl 0 rfl) ?_
        refine rgetf C hd (lt_moor hj) (cC_moor hj) rfl tgX0 5 (by decide) uw111 rfl dX0_nextFreeBeside_13 ?_
        refine lv_iload_n hx hb dX0_nextFreeBeside_16 rfl (lv_at hl 2 rfl) ?_
        replace he := g_some he
        obtain ⟨hi2, he⟩ := he
        refine riald C hd (lt_marr hj 2 (by decide)) (cC_marr hj 2 (by decide) (by decide)) hi2 dX0_nextFreeBeside_17 ?_
        refine lv_aload_n hx hb dX0_nextFreeBeside_18 rfl (lv_at hl 0 rfl) ?_
        refine rgetf C hd (lt_moor hj) (cC_moor hj) rfl tgX0 5 (by decide) uw111 rfl dX0_nextFreeBeside_19 ?_
        refine lv_iload_n hx hb dX0_nextFreeBeside_22 rfl (lv_at hl 1 rfl) ?_
        replace he := g_some he
        obtain ⟨hi3, he⟩ := he
        refine riald C hd (lt_marr hj 2 (by decide)) (cC_marr hj 2 (by decide) (by decide)) hi3 dX0_nextFreeBeside_23 ?_
        refine lv_icmp_ne (tgt := 37) hx hb dX0_nextFreeBeside_24 (by decide) (fun hc4 => ?_) (fun hc4 => ?_)
        · replace he := i_f hc4 he
          refine lv_iinc (v := _ + 1) (lv' := [(2, .int _), (0, .ref _), (1, .int _)]) hx hb dX0_nextFreeBeside_37 hl (k := 2) rfl rfl (by decide) rfl (fun ls hl => ?_)
          refine lv_goto (tgt := 4) hx hb dX0_nextFreeBeside_40 (by decide) ?_
          exact ih4 _ _ _ _ _ _ (lv_sub hl [1, 2, 0] rfl) hd he
        · replace he := i_t hc4 he
          refine lv_aload_n hx hb dX0_nextFreeBeside_27 rfl (lv_at hl 0 rfl) ?_
          refine lv_iload_n hx hb dX0_nextFreeBeside_28 rfl (lv_at hl 2 rfl) ?_
          replace he := b_some he
          obtain ⟨⟨r5, V5⟩, h5, he⟩ := he
          refine kVZ C hd hl.1 kw_X0_63 (lt_moor hj) (cC_moor hj) rfl (c_X0_isFree l G ks hJ hj h5) ⟨Nat.le_of_ble_eq_true rfl, Nat.le_of_ble_eq_true rfl⟩ rfl (rest := []) rfl (Nat.le_of_ble_eq_true rfl) dX0_nextFreeBeside_29 (fun H locs hz5 hd => ?_)
          refine lv_if_eq (tgt := 37) hx hb dX0_nextFreeBeside_32 (by decide) (fun hc6 => ?_) (fun hc6 => ?_)
          · replace he := i_t hc6 he
            refine lv_iinc (v := _ + 1) (lv' := [(2, .int _), (0, .ref _), (1, .int _)]) hx hb dX0_nextFreeBeside_37 hl (k := 2) rfl rfl (by decide) rfl (fun ls hl => ?_)
            refine lv_goto (tgt := 4) hx hb dX0_nextFreeBeside_40 (by decide) ?_
            exact ih4 _ _ _ _ _ _ (lv_sub hl [1, 2, 0] rfl) hd he
          · replace he := i_f hc6 he
            refine lv_iload_n hx hb dX0_nextFreeBeside_35 rfl (lv_at hl 2 rfl) ?_
            exact retIe (cf := (cC G)) C hr hlk hd he dX0_nextFreeBeside_36
  unfold f_X0_nextFreeBeside at he
  refine lv_iload_n hx hb dX0_nextFreeBeside_0 rfl (lv_at hl 1 rfl) ?_
  refine lv_iconst (v := 1) hx hb dX0_nextFreeBeside_1 (by decide) ?_
  refine lv_iadd hx hb dX0_nextFreeBeside_2 ?_
  refine lv_istore_n (lv' := [(2, .int _), (0, .ref _), (1, .int _)]) hx hb dX0_nextFreeBeside_3 rfl hl (by decide) rfl (fun ls hl => ?_)
  exact L4 200 _ _ _ _ _ _ (lv_sub hl [1, 2, 0] rfl) hd he
set_option maxRecDepth 100000 in
set_option maxHeartbeats 4000000 in
theorem c_X0_collide (l : Launch) (G : Gd) (ks : Ks) (hJ : Inj 37 G.2.2) {j : Nat} (hj : j < 3) {V V' : VV} (he : f_X0_collide j V = some V') : MV l 37 G (XC G ks) yX0_collide cX0_collide 3 2 43 [.ref (G.2.2 (8 * j))] (cC G V) (cC G V') := by
  refine walk_of (own := RX0) (by decide) rfl hJ (xs_C G ks) (Nat.le_of_ble_eq_true rfl) ?_
  intro p e s m below meth c C hr hlk ls hl hd
  have hl : lv_has ls 3 [(0, .ref (G.2.2 (8 * j)))] := hl
  obtain ⟨⟨hx, hb, hml, hown, hts⟩, -⟩ := id C
  have L2 : ∀ (fuel : Nat), ∀ (x1 : Int32) (V : VV) (H : Heap) (locs : List Loc) (ls : Array Slot), lv_has ls 3 [(0, .ref (G.2.2 (8 * j))), (1, .int x1)] → Dy 37 G (cC G V) s H locs → f_X0_collide_L2 j fuel x1 V = some V' → W p l e (rmF 2 43) s m ([.ref (G.2.2 (8 * j))] : List Value).toArray below meth c H locs 0 0 (MQ below (QV 37 G (cC G V')) ([.ref (G.2.2 (8 * j))] : List Value).toArray s 0 0 (inA 37 G.2.2)) (F0 m 2 ls []) := by
    intro fuel
    induction fuel with
    | zero => intro x1 V H locs ls hl hd he; simp [f_X0_collide_L2] at he
    | succ n ih2 =>
      intro x1 V H locs ls hl hd he
      rw [f_X0_collide_L2] at he
      refine lv_iload_n hx hb dX0_collide_2 rfl (lv_at hl 1 rfl) ?_
      refine lv_aload_n hx hb dX0_collide_3 rfl (lv_at hl 0 rfl) ?_
      refine rgetf C hd (lt_moor hj) (cC_moor hj) rfl tgX0 3 (by decide) uw107 rfl dX0_collide_4 ?_
      refine lv_icmp_ge (tgt := 78) hx hb dX0_collide_7 (by decide) (fun hc1 => ?_) (fun hc1 => ?_)
      · replace he := i_t hc1 he
        exact retVe (cf := (cC G)) C hr hlk hd he dX0_collide_78
      · replace he := i_f hc1 he
        refine lv_aload_n hx hb dX0_collide_10 rfl (lv_at hl 0 rfl) ?_
        refine lv_iload_n hx hb dX0_collide_11 rfl (lv_at hl 1 rfl) ?_
        replace he := b_some he
        obtain ⟨⟨r2, V2⟩, h2, he⟩ := he
        refine kVZ C hd hl.1 kw_X0_63 (lt_moor hj) (cC_moor hj) rfl (c_X0_isFree l G ks hJ hj h2) ⟨Nat.le_of_ble_eq_true rfl, Nat.le_of_ble_eq_true rfl⟩ rfl (rest := []) rfl (Nat.le_of_ble_eq_true rfl) dX0_collide_12 (fun H locs hz2 hd => ?_)
        refine lv_if_eq (tgt := 72) hx hb dX0_collide_15 (by decide) (fun hc3 => ?_) (fun hc3 => ?_)
        · replace he := i_t hc3 he
          refine lv_iinc (v := _ + 1) (lv' := [(1, .int _), (0, .ref _)]) hx hb dX0_collide_72 hl (k := 1) rfl rfl (by decide) rfl (fun ls hl => ?_)
          refine lv_goto (tgt := 2) hx hb dX0_collide_75 (by decide) ?_
          exact ih2 _ _ _ _ _ (lv_sub hl [1, 0] rfl) hd he
        · replace he := i_f hc3 he
          refine lv_aload_n hx hb dX0_collide_18 rfl (lv_at hl 0 rfl) ?_
          refine lv_iload_n hx hb dX0_collide_19 rfl (lv_at hl 1 rfl) ?_
          replace he := b_some he
          obtain ⟨⟨r4, V4⟩, h4, he⟩ := he
          refine kVI C hd hl.1 kw_X0_95 (lt_moor hj) (cC_moor hj) rfl (c_X0_nextFreeBeside l G ks hJ hj h4) ⟨Nat.le_of_ble_eq_true rfl, Nat.le_of_ble_eq_true rfl⟩ rfl (rest := []) rfl (Nat.le_of_ble_eq_true rfl) dX0_collide_20 (fun H locs hd => ?_)
          refine lv_istore_n (lv' := [(2, .int _), (0, .ref _), (1, .int _)]) hx hb dX0_collide_23 rfl hl (by decide) rfl (fun ls hl => ?_)
          refine lv_aload_n hx hb dX0_collide_24 rfl (lv_at hl 1 rfl) ?_
          refine lv_iload_n hx hb dX0_collide_25 rfl (lv_at hl 0 rfl) ?_
          replace he := b_some he
          obtain ⟨⟨r5, V5⟩, h5, he⟩ := he
          refine kVZ C hd hl.1 kw_X0_74 (lt_moor hj) (cC_moor hj) rfl (c_X0_has l G ks hJ hj h5) ⟨Nat.le_of_ble_eq_true rfl, Nat.le_of_ble_eq_true rfl⟩ rfl (rest := []) rfl (Nat.le_of_ble_eq_true rfl) dX0_collide_26 (fun H locs hz5 hd => ?_)
          refine lv_if_eq (tgt := 41) hx hb dX0_collide_29 (by decide) (fun hc6 => ?_) (fun hc6 => ?_)
          · replace he := i_t hc6 he
            refine lv_aload_n hx hb dX0_collide_41 rfl (lv_at hl 1 rfl) ?_
            refine rgetf C hd (lt_moor hj) (cC_moor hj) rfl tgX0 4 (by decide) uw109 rfl dX0_collide_42 ?_
            refine lv_iload_n hx hb dX0_collide_45 rfl (lv_at hl 2 rfl) ?_
            replace he := g_some he
            obtain ⟨hi7, he⟩ := he
            refine riald C hd (lt_marr hj 1 (by decide)) (cC_marr hj 1 (by decide) (by decide)) hi7 dX0_collide_46 ?_
            refine lv_iconst (v := 5) hx hb dX0_collide_47 (by decide) ?_
            refine lv_icmp_ne (tgt := 72) hx hb dX0_collide_48 (by decide) (fun hc8 => ?_) (fun hc8 => ?_)
            · replace he := i_f hc8 he
              refine lv_iinc (v := _ + 1) (lv' := [(1, .int _), (2, .int _), (0, .ref _)]) hx hb dX0_collide_72 hl (k := 2) rfl rfl (by decide) rfl (fun ls hl => ?_)
              refine lv_goto (tgt := 2) hx hb dX0_collide_75 (by decide) ?_
              exact ih2 _ _ _ _ _ (lv_sub hl [2, 0] rfl) hd he
            · replace he := i_t hc8 he
              refine lv_aload_n hx hb dX0_collide_51 rfl (lv_at hl 1 rfl) ?_
              refine rgetf C hd (lt_moor hj) (cC_moor hj) rfl tgX0 5 (by decide) uw111 rfl dX0_collide_52 ?_
              refine lv_iload_n hx hb dX0_collide_55 rfl (lv_at hl 2 rfl) ?_
              replace he := g_some he
              obtain ⟨hi9, he⟩ := he
              refine riald C hd (lt_marr hj 2 (by decide)) (cC_marr hj 2 (by decide) (by decide)) hi9 dX0_collide_56 ?_
              refine lv_aload_n hx hb dX0_collide_57 rfl (lv_at hl 1 rfl) ?_
              refine rgetf C hd (lt_moor hj) (cC_moor hj) rfl tgX0 6 (by decide) uw113 rfl dX0_collide_58 ?_
              refine lv_iload_n hx hb dX0_collide_61 rfl (lv_at hl 2 rfl) ?_
              replace he := g_some he
              obtain ⟨hi10, he⟩ := he
              refine riald C hd (lt_marr hj 3 (by decide)) (cC_marr hj 3 (by decide) (by decide)) hi10 dX0_collide_62 ?_
              refine lv_icmp_ne (tgt := 72) hx hb dX0_collide_63 (by decide) (fun hc11 => ?_) (fun hc11 => ?_)
              · replace he := i_f hc11 he
                refine lv_iinc (v := _ + 1) (lv' := [(1, .int _), (2, .int _), (0, .ref _)]) hx hb dX0_collide_72 hl (k := 2) rfl rfl (by decide) rfl (fun ls hl => ?_)
                refine lv_goto (tgt := 2) hx hb dX0_collide_75 (by decide) ?_
                exact ih2 _ _ _ _ _ (lv_sub hl [2, 0] rfl) hd he
              · replace he := i_t hc11 he
                refine lv_aload_n hx hb dX0_collide_66 rfl (lv_at hl 1 rfl) ?_
                refine lv_iload_n hx hb dX0_collide_67 rfl (lv_at hl 2 rfl) ?_
                refine lv_iload_n hx hb dX0_collide_68 rfl (lv_at hl 2 rfl) ?_
                replace he := b_some he
                obtain ⟨V12, h12, he⟩ := he
                refine kVV C hd hl.1 kw_X0_99 (lt_moor hj) (cC_moor hj) rfl (c_X0_keepTwo l G ks hJ hj h12) ⟨Nat.le_of_ble_eq_true rfl, Nat.le_of_ble_eq_true rfl⟩ rfl (rest := []) rfl (Nat.le_of_ble_eq_true rfl) dX0_collide_69 (fun H locs hd => ?_)
                refine lv_iinc (v := _ + 1) (lv' := [(1, .int _), (2, .int _), (0, .ref _)]) hx hb dX0_collide_72 hl (k := 2) rfl rfl (by decide) rfl (fun ls hl => ?_)
                refine lv_goto (tgt := 2) hx hb dX0_collide_75 (by decide) ?_
                exact ih2 _ _ _ _ _ (lv_sub hl [2, 0] rfl) hd he
          · replace he := i_f hc6 he
            refine lv_aload_n hx hb dX0_collide_32 rfl (lv_at hl 1 rfl) ?_
            refine lv_iload_n hx hb dX0_collide_33 rfl (lv_at hl 2 rfl) ?_
            refine lv_iload_n hx hb dX0_collide_34 rfl (lv_at hl 0 rfl) ?_
            replace he := b_some he
            obtain ⟨V13, h13, he⟩ := he
            refine kVV C hd hl.1 kw_X0_99 (lt_moor hj) (cC_moor hj) rfl (c_X0_keepTwo l G ks hJ hj h13) ⟨Nat.le_of_ble_eq_true rfl, Nat.le_of_ble_eq_true rfl⟩ rfl (rest := []) rfl (Nat.le_of_ble_eq_true rfl) dX0_collide_35 (fun H locs hd => ?_)
            refine lv_goto (tgt := 72) hx hb dX0_collide_38 (by decide) ?_
            refine lv_iinc (v := _ + 1) (lv' := [(1, .int _), (2, .int _), (0, .ref _)]) hx hb dX0_collide_72 hl (k := 2) rfl rfl (by decide) rfl (fun ls hl => ?_)
            refine lv_goto (tgt := 2) hx hb dX0_collide_75 (by decide) ?_
            exact ih2 _ _ _ _ _ (lv_sub hl [2, 0] rfl) hd he
  unfold f_X0_collide at he
  refine lv_iconst (v := 0) hx hb dX0_collide_0 (by decide) ?_
  refine lv_istore_n (lv' := [(1, .int _), (0, .ref _)]) hx hb dX0_collide_1 rfl hl (by decide) rfl (fun ls hl => ?_)
  exact L2 200 _ _ _ _ _ (lv_sub hl [1, 0] rfl) hd he
set_option maxRecDepth 100000 in
set_option maxHeartbeats 4000000 in
theorem c_X0_passHour (l : Launch) (G : Gd) (ks : Ks) (hJ : Inj 37 G.2.2) {j : Nat} (hj : j < 3) {V V' : VV} (he : f_X0_passHour j V = some V') : MV l 37 G (XC G ks) yX0_passHour cX0_passHour 3 3 65 [.ref (G.2.2 (8 * j))] (cC G V) (cC G V') := by
  refine walk_of (own := RX0) (by decide) rfl hJ (xs_C G ks) (Nat.le_of_ble_eq_true rfl) ?_
  intro p e s m below meth c C hr hlk ls hl hd
  have hl : lv_has ls 3 [(0, .ref (G.2.2 (8 * j)))] := hl
  obtain ⟨⟨hx, hb, hml, hown, hts⟩, -⟩ := id C
  have L15 : ∀ (fuel : Nat), ∀ (x1 : Int32) (x2 : Int32) (V : VV) (H : Heap) (locs : List Loc) (ls : Array Slot), lv_has ls 3 [(0, .ref (G.2.2 (8 * j))), (1, .int x1), (2, .int x2)] → Dy 37 G (cC G V) s H locs → f_X0_passHour_L15 j fuel x1 x2 V = some V' → W p l e (rmF 3 65) s m ([.ref (G.2.2 (8 * j))] : List Value).toArray below meth c H locs 0 0 (MQ below (QV 37 G (cC G V')) ([.ref (G.2.2 (8 * j))] : List Value).toArray s 0 0 (inA 37 G.2.2)) (F0 m 15 ls []) := by
    intro fuel
    induction fuel with
    | zero => intro x1 x2 V H locs ls hl hd he; simp [f_X0_passHour_L15] at he
    | succ n ih15 =>
      intro x1 x2 V H locs ls hl hd he
      rw [f_X0_passHour_L15] at he
      refine lv_iload_n hx hb dX0_passHour_15 rfl (lv_at hl 2 rfl) ?_
      refine lv_aload_n hx hb dX0_passHour_16 rfl (lv_at hl 0 rfl) ?_
      refine rgetf C hd (lt_moor hj) (cC_moor hj) rfl tgX0 3 (by decide) uw107 rfl dX0_passHour_17 ?_
      refine lv_icmp_ge (tgt := 57) hx hb dX0_passHour_20 (by decide) (fun hc3 => ?_) (fun hc3 => ?_)
      · replace he := i_t hc3 he
        refine lv_iload_n hx hb dX0_passHour_57 rfl (lv_at hl 1 rfl) ?_
        refine lv_if_eq (tgt := 65) hx hb dX0_passHour_58 (by decide) (fun hc4 => ?_) (fun hc4 => ?_)
        · replace he := i_t hc4 he
          refine lv_aload_n hx hb dX0_passHour_65 rfl (lv_at hl 0 rfl) ?_
          refine lv_dup hx hb dX0_passHour_66 rfl ?_
          refine rgetf C hd (lt_moor hj) (cC_moor hj) rfl tgX0 0 (by decide) uw99 rfl dX0_passHour_67 ?_
          refine lv_iconst (v := 1) hx hb dX0_passHour_70 (by decide) ?_
          refine lv_iadd hx hb dX0_passHour_71 ?_
          replace he := bv_ex he
          obtain ⟨V5, e5, he⟩ := he
          refine rputf (cell' := (cC G) V5) C hd (lt_moor hj) (cC_moor hj) rfl tgX0 tyX0 tyX0_ok nmX0 0 (by decide) uw99 rfl (tyX0_ok 0 (by decide)) rfl rfl (Nat.le_of_ble_eq_true rfl) (cC_moor_w hj (by decide) e5) (cC_ne e5) dX0_passHour_72 (fun H locs hd => ?_)
          exact retVe (cf := (cC G)) C hr hlk hd he dX0_passHour_75
        · replace he := i_f hc4 he
          refine lv_aload_n hx hb dX0_passHour_61 rfl (lv_at hl 0 rfl) ?_
          replace he := b_some he
          obtain ⟨V6, h6, he⟩ := he
          refine kVV C hd hl.1 kw_X0_89 (lt_moor hj) (cC_moor hj) rfl (c_X0_collide l G ks hJ hj h6) ⟨Nat.le_of_ble_eq_true rfl, Nat.le_of_ble_eq_true rfl⟩ rfl (rest := []) rfl (Nat.le_of_ble_eq_true rfl) dX0_passHour_62 (fun H locs hd => ?_)
          refine lv_aload_n hx hb dX0_passHour_65 rfl (lv_at hl 0 rfl) ?_
          refine lv_dup hx hb dX0_passHour_66 rfl ?_
          refine rgetf C hd (lt_moor hj) (cC_moor hj) rfl tgX0 0 (by decide) uw99 rfl dX0_passHour_67 ?_
          refine lv_iconst (v := 1) hx hb dX0_passHour_70 (by decide) ?_
          refine lv_iadd hx hb dX0_passHour_71 ?_
          replace he := bv_ex he
          obtain ⟨V7, e7, he⟩ := he
          refine rputf (cell' := (cC G) V7) C hd (lt_moor hj) (cC_moor hj) rfl tgX0 tyX0 tyX0_ok nmX0 0 (by decide) uw99 rfl (tyX0_ok 0 (by decide)) rfl rfl (Nat.le_of_ble_eq_true rfl) (cC_moor_w hj (by decide) e7) (cC_ne e7) dX0_passHour_72 (fun H locs hd => ?_)
          exact retVe (cf := (cC G)) C hr hlk hd he dX0_passHour_75
      · replace he := i_f hc3 he
        refine lv_aload_n hx hb dX0_passHour_23 rfl (lv_at hl 0 rfl) ?_
        refine lv_iload_n hx hb dX0_passHour_24 rfl (lv_at hl 2 rfl) ?_
        replace he := b_some he
        obtain ⟨⟨r8, V8⟩, h8, he⟩ := he
        refine kVZ C hd hl.1 kw_X0_63 (lt_moor hj) (cC_moor hj) rfl (c_X0_isFree l G ks hJ hj h8) ⟨Nat.le_of_ble_eq_true rfl, Nat.le_of_ble_eq_true rfl⟩ rfl (rest := []) rfl (Nat.le_of_ble_eq_true rfl) dX0_passHour_25 (fun H locs hz8 hd => ?_)
        refine lv_if_ne (tgt := 41) hx hb dX0_passHour_28 (by decide) (fun hc9 => ?_) (fun hc9 => ?_)
        · replace he := i_f hc9 he
          refine lv_aload_n hx hb dX0_passHour_41 rfl (lv_at hl 0 rfl) ?_
          refine lv_iload_n hx hb dX0_passHour_42 rfl (lv_at hl 2 rfl) ?_
          replace he := b_some he
          obtain ⟨V10, h10, he⟩ := he
          refine kVV C hd hl.1 kw_X0_86 (lt_moor hj) (cC_moor hj) rfl (c_X0_go l G ks hJ hj h10) ⟨Nat.le_of_ble_eq_true rfl, Nat.le_of_ble_eq_true rfl⟩ rfl (rest := []) rfl (Nat.le_of_ble_eq_true rfl) dX0_passHour_43 (fun H locs hd => ?_)
          refine lv_aload_n hx hb dX0_passHour_46 rfl (lv_at hl 0 rfl) ?_
          refine lv_iload_n hx hb dX0_passHour_47 rfl (lv_at hl 2 rfl) ?_
          replace he := b_some he
          obtain ⟨V11, h11, he⟩ := he
          refine kVV C hd hl.1 kw_X0_70 (lt_moor hj) (cC_moor hj) rfl (c_X0_bringAlong l G ks hJ hj h11) ⟨Nat.le_of_ble_eq_true rfl, Nat.le_of_ble_eq_true rfl⟩ rfl (rest := []) rfl (Nat.le_of_ble_eq_true rfl) dX0_passHour_48 (fun H locs hd => ?_)
          refine lv_iinc (v := _ + 1) (lv' := [(2, .int _), (0, .ref _), (1, .int _)]) hx hb dX0_passHour_51 hl (k := 2) rfl rfl (by decide) rfl (fun ls hl => ?_)
          refine lv_goto (tgt := 15) hx hb dX0_passHour_54 (by decide) ?_
          exact ih15 _ _ _ _ _ _ (lv_sub hl [1, 2, 0] rfl) hd he
        · replace he := i_t hc9 he
          refine lv_aload_n hx hb dX0_passHour_31 rfl (lv_at hl 0 rfl) ?_
          refine rgetf C hd (lt_moor hj) (cC_moor hj) rfl tgX0 9 (by decide) uw121 rfl dX0_passHour_32 ?_
          refine lv_iload_n hx hb dX0_passHour_35 rfl (lv_at hl 2 rfl) ?_
          replace he := g_some he
          obtain ⟨hi12, he⟩ := he
          refine riald C hd (lt_marr hj 6 (by decide)) (cC_marr hj 6 (by decide) (by decide)) hi12 dX0_passHour_36 ?_
          refine lv_iload_n hx hb dX0_passHour_37 rfl (lv_at hl 2 rfl) ?_
          refine lv_icmp_lt (tgt := 51) hx hb dX0_passHour_38 (by decide) (fun hc13 => ?_) (fun hc13 => ?_)
          · replace he := i_t hc13 he
            refine lv_iinc (v := _ + 1) (lv' := [(2, .int _), (0, .ref _), (1, .int _)]) hx hb dX0_passHour_51 hl (k := 2) rfl rfl (by decide) rfl (fun ls hl => ?_)
            refine lv_goto (tgt := 15) hx hb dX0_passHour_54 (by decide) ?_
            exact ih15 _ _ _ _ _ _ (lv_sub hl [1, 2, 0] rfl) hd he
          · replace he := i_f hc13 he
            refine lv_aload_n hx hb dX0_passHour_41 rfl (lv_at hl 0 rfl) ?_
            refine lv_iload_n hx hb dX0_passHour_42 rfl (lv_at hl 2 rfl) ?_
            replace he := b_some he
            obtain ⟨V14, h14, he⟩ := he
            refine kVV C hd hl.1 kw_X0_86 (lt_moor hj) (cC_moor hj) rfl (c_X0_go l G ks hJ hj h14) ⟨Nat.le_of_ble_eq_true rfl, Nat.le_of_ble_eq_true rfl⟩ rfl (rest := []) rfl (Nat.le_of_ble_eq_true rfl) dX0_passHour_43 (fun H locs hd => ?_)
            refine lv_aload_n hx hb dX0_passHour_46 rfl (lv_at hl 0 rfl) ?_
            refine lv_iload_n hx hb dX0_passHour_47 rfl (lv_at hl 2 rfl) ?_
            replace he := b_some he
            obtain ⟨V15, h15, he⟩ := he
            refine kVV C hd hl.1 kw_X0_70 (lt_moor hj) (cC_moor hj) rfl (c_X0_bringAlong l G ks hJ hj h15) ⟨Nat.le_of_ble_eq_true rfl, Nat.le_of_ble_eq_true rfl⟩ rfl (rest := []) rfl (Nat.le_of_ble_eq_true rfl) dX0_passHour_48 (fun H locs hd => ?_)
            refine lv_iinc (v := _ + 1) (lv' := [(2, .int _), (0, .ref _), (1, .int _)]) hx hb dX0_passHour_51 hl (k := 2) rfl rfl (by decide) rfl (fun ls hl => ?_)
            refine lv_goto (tgt := 15) hx hb dX0_passHour_54 (by decide) ?_
            exact ih15 _ _ _ _ _ _ (lv_sub hl [1, 2, 0] rfl) hd he
  unfold f_X0_passHour at he
  refine lv_aload_n hx hb dX0_passHour_0 rfl (lv_at hl 0 rfl) ?_
  replace he := b_some he
  obtain ⟨⟨r1, V1⟩, h1, he⟩ := he
  refine kVZ C hd hl.1 kw_X0_80 (lt_moor hj) (cC_moor hj) rfl (c_X0_isFoggy l G ks hJ hj h1) ⟨Nat.le_of_ble_eq_true rfl, Nat.le_of_ble_eq_true rfl⟩ rfl (rest := []) rfl (Nat.le_of_ble_eq_true rfl) dX0_passHour_1 (fun H locs hz1 hd => ?_)
  refine lv_istore_n (lv' := [(1, .int _), (0, .ref _)]) hx hb dX0_passHour_4 rfl hl (by decide) rfl (fun ls hl => ?_)
  refine lv_iload_n hx hb dX0_passHour_5 rfl (lv_at hl 0 rfl) ?_
  refine lv_if_ne (tgt := 13) hx hb dX0_passHour_6 (by decide) (fun hc2 => ?_) (fun hc2 => ?_)
  · replace he := i_f hc2 he
    refine lv_iconst (v := 0) hx hb dX0_passHour_13 (by decide) ?_
    refine lv_istore_n (lv' := [(2, .int _), (1, .int _), (0, .ref _)]) hx hb dX0_passHour_14 rfl hl (by decide) rfl (fun ls hl => ?_)
    exact L15 200 _ _ _ _ _ _ (lv_sub hl [2, 1, 0] rfl) hd he
  · replace he := i_t hc2 he
    refine lv_aload_n hx hb dX0_passHour_9 rfl (lv_at hl 1 rfl) ?_
    replace he := b_some he
    obtain ⟨V16, h16, he⟩ := he
    refine kVV C hd hl.1 kw_X0_83 (lt_moor hj) (cC_moor hj) rfl (c_X0_lift l G ks hJ hj h16) ⟨Nat.le_of_ble_eq_true rfl, Nat.le_of_ble_eq_true rfl⟩ rfl (rest := []) rfl (Nat.le_of_ble_eq_true rfl) dX0_passHour_10 (fun H locs hd => ?_)
    refine lv_iconst (v := 0) hx hb dX0_passHour_13 (by decide) ?_
    refine lv_istore_n (lv' := [(2, .int _), (1, .int _), (0, .ref _)]) hx hb dX0_passHour_14 rfl hl (by decide) rfl (fun ls hl => ?_)
    exact L15 200 _ _ _ _ _ _ (lv_sub hl [2, 1, 0] rfl) hd he
set_option maxRecDepth 100000 in
set_option maxHeartbeats 4000000 in
theorem c_X0_pass (l : Launch) (G : Gd) (ks : Ks) (hJ : Inj 37 G.2.2) {j : Nat} {a1 : Int32} (hj : j < 3) {V V' : VV} (he : f_X0_pass j a1 V = some V') : MV l 37 G (XC G ks) yX0_pass cX0_pass 3 4 87 [.ref (G.2.2 (8 * j)), .int a1] (cC G V) (cC G V') := by
  refine walk_of (own := RX0) (by decide) rfl hJ (xs_C G ks) (Nat.le_of_ble_eq_true rfl) ?_
  intro p e s m below meth c C hr hlk ls hl hd
  have hl : lv_has ls 3 [(0, .ref (G.2.2 (8 * j))), (1, .int a1)] := hl
  obtain ⟨⟨hx, hb, hml, hown, hts⟩, -⟩ := id C
  have L2 : ∀ (fuel : Nat), ∀ (x1 : Int32) (x2 : Int32) (V : VV) (H : Heap) (locs : List Loc) (ls : Array Slot), lv_has ls 3 [(0, .ref (G.2.2 (8 * j))), (1, .int x1), (2, .int x2)] → Dy 37 G (cC G V) s H locs → f_X0_pass_L2 j fuel x1 x2 V = some V' → W p l e (rmF 4 87) s m ([.ref (G.2.2 (8 * j)), .int a1] : List Value).toArray below meth c H locs 0 0 (MQ below (QV 37 G (cC G V')) ([.ref (G.2.2 (8 * j)), .int a1] : List Value).toArray s 0 0 (inA 37 G.2.2)) (F0 m 2 ls []) := by
    intro fuel
    induction fuel with
    | zero => intro x1 x2 V H locs ls hl hd he; simp [f_X0_pass_L2] at he
    | succ n ih2 =>
      intro x1 x2 V H locs ls hl hd he
      rw [f_X0_pass_L2] at he
      refine lv_iload_n hx hb dX0_pass_2 rfl (lv_at hl 2 rfl) ?_
      refine lv_iload_n hx hb dX0_pass_3 rfl (lv_at hl 1 rfl) ?_
      refine lv_icmp_ge (tgt := 17) hx hb dX0_pass_4 (by decide) (fun hc1 => ?_) (fun hc1 => ?_)
      · replace he := i_t hc1 he
        exact retVe (cf := (cC G)) C hr hlk hd he dX0_pass_17
      · replace he := i_f hc1 he
        refine lv_aload_n hx hb dX0_pass_7 rfl (lv_at hl 0 rfl) ?_
        replace he := b_some he
        obtain ⟨V2, h2, he⟩ := he
        refine kVV C hd hl.1 kw_X0_77 (lt_moor hj) (cC_moor hj) rfl (c_X0_passHour l G ks hJ hj h2) ⟨Nat.le_of_ble_eq_true rfl, Nat.le_of_ble_eq_true rfl⟩ rfl (rest := []) rfl (Nat.le_of_ble_eq_true rfl) dX0_pass_8 (fun H locs hd => ?_)
        refine lv_iinc (v := _ + 1) (lv' := [(2, .int _), (0, .ref _), (1, .int _)]) hx hb dX0_pass_11 hl (k := 2) rfl rfl (by decide) rfl (fun ls hl => ?_)
        refine lv_goto (tgt := 2) hx hb dX0_pass_14 (by decide) ?_
        exact ih2 _ _ _ _ _ _ (lv_sub hl [1, 2, 0] rfl) hd he
  unfold f_X0_pass at he
  refine lv_iconst (v := 0) hx hb dX0_pass_0 (by decide) ?_
  refine lv_istore_n (lv' := [(2, .int _), (0, .ref _), (1, .int _)]) hx hb dX0_pass_1 rfl hl (by decide) rfl (fun ls hl => ?_)
  exact L2 200 _ _ _ _ _ _ (lv_sub hl [1, 2, 0] rfl) hd he
set_option maxRecDepth 100000 in
set_option maxHeartbeats 4000000 in
theorem c_X3_hours (l : Launch) (G : Gd) (ks : Ks) (hJ : Inj 37 G.2.2) {a1 : Int32} {V V' : VV} {r : Int32} (he : f_X3_hours a1 V = some (r, V')) : MI l 37 G (XC G ks) yX3_hours cX3_hours 2 5 109 [.ref (G.2.2 24), .int a1] (cC G V) (cC G V') r := by
  refine walk_of (own := RX3) (by decide) rfl hJ (xs_C G ks) (Nat.le_of_ble_eq_true rfl) ?_
  intro p e s m below meth c C hr hlk ls hl hd
  have hl : lv_has ls 2 [(0, .ref (G.2.2 24)), (1, .int a1)] := hl
  obtain ⟨⟨hx, hb, hml, hown, hts⟩, -⟩ := id C
  unfold f_X3_hours at he
  refine lv_iload_n hx hb dX3_hours_0 rfl (lv_at hl 1 rfl) ?_
  refine lv_iconst (v := 1) hx hb dX3_hours_1 (by decide) ?_
  refine lv_icmp_lt (tgt := 11) hx hb dX3_hours_2 (by decide) (fun hc1 => ?_) (fun hc1 => ?_)
  · replace he := i_t hc1 he
    refine lv_aload_n hx hb dX3_hours_11 rfl (lv_at hl 0 rfl) ?_
    refine lv_ldc hx hb hown (hts _ uw226) dX3_hours_12 ?_
    replace he := b_some he
    obtain ⟨⟨r2, V2⟩, h2, he⟩ := he
    refine kVI C hd hl.1 kw_X3_46 (by decide) cC24 rfl (c_X3_finding l G ks hJ h2) ⟨Nat.le_of_ble_eq_true rfl, Nat.le_of_ble_eq_true rfl⟩ rfl (rest := []) rfl (Nat.le_of_ble_eq_true rfl) dX3_hours_14 (fun H locs hd => ?_)
    exact retIe (cf := (cC G)) C hr hlk hd he dX3_hours_17
  · replace he := i_f hc1 he
    refine lv_iload_n hx hb dX3_hours_5 rfl (lv_at hl 1 rfl) ?_
    refine lv_bipush (v := 60) hx hb dX3_hours_6 (by decide) ?_
    refine lv_icmp_le (tgt := 18) hx hb dX3_hours_8 (by decide) (fun hc3 => ?_) (fun hc3 => ?_)
    · replace he := i_t hc3 he
      refine lv_aload_n hx hb dX3_hours_18 rfl (lv_at hl 0 rfl) ?_
      refine rgetf C hd (by decide) cC24 rfl tgX3 0 (by decide) uw199 rfl dX3_hours_19 ?_
      refine rgetf C hd (lt_moor (by decide)) (cC_moor (by decide)) rfl tgX0 0 (by decide) uw100 rfl dX3_hours_22 ?_
      refine lv_ldc hx hb hown (hts _ uw357) dX3_hours_25 ?_
      refine lv_iload_n hx hb dX3_hours_27 rfl (lv_at hl 1 rfl) ?_
      refine lv_isub hx hb dX3_hours_28 ?_
      refine lv_icmp_le (tgt := 39) hx hb dX3_hours_29 (by decide) (fun hc4 => ?_) (fun hc4 => ?_)
      · replace he := i_t hc4 he
        refine lv_aload_n hx hb dX3_hours_39 rfl (lv_at hl 0 rfl) ?_
        refine rgetf C hd (by decide) cC24 rfl tgX3 0 (by decide) uw199 rfl dX3_hours_40 ?_
        refine lv_iload_n hx hb dX3_hours_43 rfl (lv_at hl 1 rfl) ?_
        replace he := b_some he
        obtain ⟨V5, h5, he⟩ := he
        refine kVV C hd hl.1 kw_X3_139 (lt_moor (by decide)) (cC_moor (by decide)) rfl (c_X0_pass l G ks hJ (by decide) h5) ⟨Nat.le_of_ble_eq_true rfl, Nat.le_of_ble_eq_true rfl⟩ rfl (rest := []) rfl (Nat.le_of_ble_eq_true rfl) dX3_hours_44 (fun H locs hd => ?_)
        refine lv_aload_n hx hb dX3_hours_47 rfl (lv_at hl 0 rfl) ?_
        refine rgetf C hd (by decide) cC24 rfl tgX3 0 (by decide) uw199 rfl dX3_hours_48 ?_
        replace he := b_some he
        obtain ⟨⟨r6, V6⟩, h6, he⟩ := he
        refine kVI C hd hl.1 kw_X3_126 (lt_moor (by decide)) (cC_moor (by decide)) rfl (c_X0_keptSet l G ks hJ (by decide) h6) ⟨Nat.le_of_ble_eq_true rfl, Nat.le_of_ble_eq_true rfl⟩ rfl (rest := []) rfl (Nat.le_of_ble_eq_true rfl) dX3_hours_51 (fun H locs hd => ?_)
        exact retIe (cf := (cC G)) C hr hlk hd he dX3_hours_54
      · replace he := i_f hc4 he
        refine lv_aload_n hx hb dX3_hours_32 rfl (lv_at hl 0 rfl) ?_
        refine lv_ldc hx hb hown (hts _ uw325) dX3_hours_33 ?_
        replace he := b_some he
        obtain ⟨⟨r7, V7⟩, h7, he⟩ := he
        refine kVI C hd hl.1 kw_X3_46 (by decide) cC24 rfl (c_X3_finding l G ks hJ h7) ⟨Nat.le_of_ble_eq_true rfl, Nat.le_of_ble_eq_true rfl⟩ rfl (rest := []) rfl (Nat.le_of_ble_eq_true rfl) dX3_hours_35 (fun H locs hd => ?_)
        exact retIe (cf := (cC G)) C hr hlk hd he dX3_hours_38
    · replace he := i_f hc3 he
      refine lv_aload_n hx hb dX3_hours_11 rfl (lv_at hl 0 rfl) ?_
      refine lv_ldc hx hb hown (hts _ uw226) dX3_hours_12 ?_
      replace he := b_some he
      obtain ⟨⟨r8, V8⟩, h8, he⟩ := he
      refine kVI C hd hl.1 kw_X3_46 (by decide) cC24 rfl (c_X3_finding l G ks hJ h8) ⟨Nat.le_of_ble_eq_true rfl, Nat.le_of_ble_eq_true rfl⟩ rfl (rest := []) rfl (Nat.le_of_ble_eq_true rfl) dX3_hours_14 (fun H locs hd => ?_)
      exact retIe (cf := (cC G)) C hr hlk hd he dX3_hours_17
set_option maxRecDepth 100000 in
set_option maxHeartbeats 4000000 in
theorem c_X0_isGlad (l : Launch) (G : Gd) (ks : Ks) (hJ : Inj 37 G.2.2) {j : Nat} {a1 : Int32} (hj : j < 3) {V V' : VV} {r : Int32} (he : f_X0_isGlad j a1 V = some (r, V')) : MZ l 37 G (XC G ks) yX0_isGlad cX0_isGlad 2 1 21 [.ref (G.2.2 (8 * j)), .int a1] (cC G V) (cC G V') r := by
  refine walk_of (own := RX0) (by decide) rfl hJ (xs_C G ks) (Nat.le_of_ble_eq_true rfl) ?_
  intro p e s m below meth c C hr hlk ls hl hd
  have hl : lv_has ls 2 [(0, .ref (G.2.2 (8 * j))), (1, .int a1)] := hl
  obtain ⟨⟨hx, hb, hml, hown, hts⟩, -⟩ := id C
  unfold f_X0_isGlad at he
  refine lv_aload_n hx hb dX0_isGlad_0 rfl (lv_at hl 0 rfl) ?_
  refine lv_iload_n hx hb dX0_isGlad_1 rfl (lv_at hl 1 rfl) ?_
  replace he := b_some he
  obtain ⟨⟨r1, V1⟩, h1, he⟩ := he
  refine kVZ C hd hl.1 kw_X0_63 (lt_moor hj) (cC_moor hj) rfl (c_X0_isFree l G ks hJ hj h1) ⟨Nat.le_of_ble_eq_true rfl, Nat.le_of_ble_eq_true rfl⟩ rfl (rest := []) rfl (Nat.le_of_ble_eq_true rfl) dX0_isGlad_2 (fun H locs hz1 hd => ?_)
  refine lv_if_ne (tgt := 37) hx hb dX0_isGlad_5 (by decide) (fun hc2 => ?_) (fun hc2 => ?_)
  · replace he := i_f hc2 he
    refine lv_iconst (v := 0) hx hb dX0_isGlad_37 (by decide) ?_
    exact retZe (cf := (cC G)) C hr hlk hd rfl he dX0_isGlad_38
  · replace he := i_t hc2 he
    refine lv_aload_n hx hb dX0_isGlad_8 rfl (lv_at hl 0 rfl) ?_
    refine rgetf C hd (lt_moor hj) (cC_moor hj) rfl tgX0 9 (by decide) uw121 rfl dX0_isGlad_9 ?_
    refine lv_iload_n hx hb dX0_isGlad_12 rfl (lv_at hl 1 rfl) ?_
    replace he := g_some he
    obtain ⟨hi3, he⟩ := he
    refine riald C hd (lt_marr hj 6 (by decide)) (cC_marr hj 6 (by decide) (by decide)) hi3 dX0_isGlad_13 ?_
    refine lv_iload_n hx hb dX0_isGlad_14 rfl (lv_at hl 1 rfl) ?_
    refine lv_icmp_eq (tgt := 37) hx hb dX0_isGlad_15 (by decide) (fun hc4 => ?_) (fun hc4 => ?_)
    · replace he := i_t hc4 he
      refine lv_iconst (v := 0) hx hb dX0_isGlad_37 (by decide) ?_
      exact retZe (cf := (cC G)) C hr hlk hd rfl he dX0_isGlad_38
    · replace he := i_f hc4 he
      refine lv_aload_n hx hb dX0_isGlad_18 rfl (lv_at hl 0 rfl) ?_
      refine rgetf C hd (lt_moor hj) (cC_moor hj) rfl tgX0 10 (by decide) uw123 rfl dX0_isGlad_19 ?_
      refine lv_iload_n hx hb dX0_isGlad_22 rfl (lv_at hl 1 rfl) ?_
      replace he := g_some he
      obtain ⟨hi5, he⟩ := he
      refine riald C hd (lt_marr hj 7 (by decide)) (cC_marr hj 7 (by decide) (by decide)) hi5 dX0_isGlad_23 ?_
      refine lv_aload_n hx hb dX0_isGlad_24 rfl (lv_at hl 0 rfl) ?_
      refine rgetf C hd (lt_moor hj) (cC_moor hj) rfl tgX0 8 (by decide) uw118 rfl dX0_isGlad_25 ?_
      refine lv_iload_n hx hb dX0_isGlad_28 rfl (lv_at hl 1 rfl) ?_
      replace he := g_some he
      obtain ⟨hi6, he⟩ := he
      refine riald C hd (lt_marr hj 5 (by decide)) (cC_marr hj 5 (by decide) (by decide)) hi6 dX0_isGlad_29 ?_
      refine lv_icmp_ne (tgt := 37) hx hb dX0_isGlad_30 (by decide) (fun hc7 => ?_) (fun hc7 => ?_)
      · replace he := i_f hc7 he
        refine lv_iconst (v := 0) hx hb dX0_isGlad_37 (by decide) ?_
        exact retZe (cf := (cC G)) C hr hlk hd rfl he dX0_isGlad_38
      · replace he := i_t hc7 he
        refine lv_iconst (v := 1) hx hb dX0_isGlad_33 (by decide) ?_
        refine lv_goto (tgt := 38) hx hb dX0_isGlad_34 (by decide) ?_
        exact retZe (cf := (cC G)) C hr hlk hd rfl he dX0_isGlad_38
set_option maxRecDepth 100000 in
set_option maxHeartbeats 4000000 in
theorem c_X0_gladSet (l : Launch) (G : Gd) (ks : Ks) (hJ : Inj 37 G.2.2) {j : Nat} (hj : j < 3) {V V' : VV} {r : Int32} (he : f_X0_gladSet j V = some (r, V')) : MI l 37 G (XC G ks) yX0_gladSet cX0_gladSet 3 2 42 [.ref (G.2.2 (8 * j))] (cC G V) (cC G V') r := by
  refine walk_of (own := RX0) (by decide) rfl hJ (xs_C G ks) (Nat.le_of_ble_eq_true rfl) ?_
  intro p e s m below meth c C hr hlk ls hl hd
  have hl : lv_has ls 3 [(0, .ref (G.2.2 (8 * j)))] := hl
  obtain ⟨⟨hx, hb, hml, hown, hts⟩, -⟩ := id C
  have L4 : ∀ (fuel : Nat), ∀ (x1 : Int32) (x2 : Int32) (V : VV) (H : Heap) (locs : List Loc) (ls : Array Slot), lv_has ls 3 [(0, .ref (G.2.2 (8 * j))), (1, .int x1), (2, .int x2)] → Dy 37 G (cC G V) s H locs → f_X0_gladSet_L4 j fuel x1 x2 V = some (r, V') → W p l e (rmF 2 42) s m ([.ref (G.2.2 (8 * j))] : List Value).toArray below meth c H locs 0 0 (MQ below (QI 37 G (cC G V') (fun r' => r' = r)) ([.ref (G.2.2 (8 * j))] : List Value).toArray s 0 0 (inA 37 G.2.2)) (F0 m 4 ls []) := by
    intro fuel
    induction fuel with
    | zero => intro x1 x2 V H locs ls hl hd he; simp [f_X0_gladSet_L4] at he
    | succ n ih4 =>
      intro x1 x2 V H locs ls hl hd he
      rw [f_X0_gladSet_L4] at he
      refine lv_iload_n hx hb dX0_gladSet_4 rfl (lv_at hl 2 rfl) ?_
      refine lv_aload_n hx hb dX0_gladSet_5 rfl (lv_at hl 0 rfl) ?_
      refine rgetf C hd (lt_moor hj) (cC_moor hj) rfl tgX0 3 (by decide) uw107 rfl dX0_gladSet_6 ?_
      refine lv_icmp_ge (tgt := 32) hx hb dX0_gladSet_9 (by decide) (fun hc1 => ?_) (fun hc1 => ?_)
      · replace he := i_t hc1 he
        refine lv_iload_n hx hb dX0_gladSet_32 rfl (lv_at hl 1 rfl) ?_
        exact retIe (cf := (cC G)) C hr hlk hd he dX0_gladSet_33
      · replace he := i_f hc1 he
        refine lv_aload_n hx hb dX0_gladSet_12 rfl (lv_at hl 0 rfl) ?_
        refine lv_iload_n hx hb dX0_gladSet_13 rfl (lv_at hl 2 rfl) ?_
        replace he := b_some he
        obtain ⟨⟨r2, V2⟩, h2, he⟩ := he
        refine kVZ C hd hl.1 kw_X0_67 (lt_moor hj) (cC_moor hj) rfl (c_X0_isGlad l G ks hJ hj h2) ⟨Nat.le_of_ble_eq_true rfl, Nat.le_of_ble_eq_true rfl⟩ rfl (rest := []) rfl (Nat.le_of_ble_eq_true rfl) dX0_gladSet_14 (fun H locs hz2 hd => ?_)
        refine lv_if_eq (tgt := 26) hx hb dX0_gladSet_17 (by decide) (fun hc3 => ?_) (fun hc3 => ?_)
        · replace he := i_t hc3 he
          refine lv_iinc (v := _ + 1) (lv' := [(2, .int _), (0, .ref _), (1, .int _)]) hx hb dX0_gladSet_26 hl (k := 2) rfl rfl (by decide) rfl (fun ls hl => ?_)
          refine lv_goto (tgt := 4) hx hb dX0_gladSet_29 (by decide) ?_
          exact ih4 _ _ _ _ _ _ (lv_sub hl [1, 2, 0] rfl) hd he
        · replace he := i_f hc3 he
          refine lv_iload_n hx hb dX0_gladSet_20 rfl (lv_at hl 1 rfl) ?_
          refine lv_iconst (v := 1) hx hb dX0_gladSet_21 (by decide) ?_
          refine lv_iload_n hx hb dX0_gladSet_22 rfl (lv_at hl 2 rfl) ?_
          refine lv_ishl hx hb dX0_gladSet_23 ?_
          refine lv_ior hx hb dX0_gladSet_24 ?_
          refine lv_istore_n (lv' := [(1, .int _), (0, .ref _), (2, .int _)]) hx hb dX0_gladSet_25 rfl hl (by decide) rfl (fun ls hl => ?_)
          refine lv_iinc (v := _ + 1) (lv' := [(2, .int _), (1, .int _), (0, .ref _)]) hx hb dX0_gladSet_26 hl (k := 2) rfl rfl (by decide) rfl (fun ls hl => ?_)
          refine lv_goto (tgt := 4) hx hb dX0_gladSet_29 (by decide) ?_
          exact ih4 _ _ _ _ _ _ (lv_sub hl [2, 1, 0] rfl) hd he
  unfold f_X0_gladSet at he
  refine lv_iconst (v := 0) hx hb dX0_gladSet_0 (by decide) ?_
  refine lv_istore_n (lv' := [(1, .int _), (0, .ref _)]) hx hb dX0_gladSet_1 rfl hl (by decide) rfl (fun ls hl => ?_)
  refine lv_iconst (v := 0) hx hb dX0_gladSet_2 (by decide) ?_
  refine lv_istore_n (lv' := [(2, .int _), (1, .int _), (0, .ref _)]) hx hb dX0_gladSet_3 rfl hl (by decide) rfl (fun ls hl => ?_)
  exact L4 200 _ _ _ _ _ _ (lv_sub hl [2, 1, 0] rfl) hd he
set_option maxRecDepth 100000 in
set_option maxHeartbeats 4000000 in
theorem c_X3_now (l : Launch) (G : Gd) (ks : Ks) (hJ : Inj 37 G.2.2) {a1 : Int32} {V V' : VV} {r : Int32} (he : f_X3_now a1 V = some (r, V')) : MI l 37 G (XC G ks) yX3_now cX3_now 2 3 64 [.ref (G.2.2 24), .int a1] (cC G V) (cC G V') r := by
  refine walk_of (own := RX3) (by decide) rfl hJ (xs_C G ks) (Nat.le_of_ble_eq_true rfl) ?_
  intro p e s m below meth c C hr hlk ls hl hd
  have hl : lv_has ls 2 [(0, .ref (G.2.2 24)), (1, .int a1)] := hl
  obtain ⟨⟨hx, hb, hml, hown, hts⟩, -⟩ := id C
  unfold f_X3_now at he
  refine lv_iload_n hx hb dX3_now_0 rfl (lv_at hl 1 rfl) ?_
  replace he := ite_cases he
  rcases he with ⟨hc1, he⟩ | ⟨hc1, he⟩
  · refine rtabIn (k := 0) (off := 39) (tgt := 40) hx hb dX3_now_1 hc1 (by decide) (by decide) rfl (by decide) ?_
    refine lv_aload_n hx hb dX3_now_40 rfl (lv_at hl 0 rfl) ?_
    refine rgetf C hd (by decide) cC24 rfl tgX3 0 (by decide) uw199 rfl dX3_now_41 ?_
    refine rgetf C hd (lt_moor (by decide)) (cC_moor (by decide)) rfl tgX0 0 (by decide) uw100 rfl dX3_now_44 ?_
    exact retIe (cf := (cC G)) C hr hlk hd he dX3_now_47
  · replace he := ite_cases he
    rcases he with ⟨hc2, he⟩ | ⟨hc2, he⟩
    · refine rtabIn (k := 1) (off := 47) (tgt := 48) hx hb dX3_now_1 hc2 (by decide) (by decide) rfl (by decide) ?_
      refine lv_aload_n hx hb dX3_now_48 rfl (lv_at hl 0 rfl) ?_
      refine rgetf C hd (by decide) cC24 rfl tgX3 0 (by decide) uw199 rfl dX3_now_49 ?_
      refine rgetf C hd (lt_moor (by decide)) (cC_moor (by decide)) rfl tgX0 1 (by decide) uw102 rfl dX3_now_52 ?_
      exact retIe (cf := (cC G)) C hr hlk hd he dX3_now_55
    · replace he := ite_cases he
      rcases he with ⟨hc3, he⟩ | ⟨hc3, he⟩
      · refine rtabIn (k := 2) (off := 55) (tgt := 56) hx hb dX3_now_1 hc3 (by decide) (by decide) rfl (by decide) ?_
        refine lv_aload_n hx hb dX3_now_56 rfl (lv_at hl 0 rfl) ?_
        refine rgetf C hd (by decide) cC24 rfl tgX3 0 (by decide) uw199 rfl dX3_now_57 ?_
        replace he := b_some he
        obtain ⟨⟨r4, V4⟩, h4, he⟩ := he
        refine kVZ C hd hl.1 kw_X3_142 (lt_moor (by decide)) (cC_moor (by decide)) rfl (c_X0_isFoggy l G ks hJ (by decide) h4) ⟨Nat.le_of_ble_eq_true rfl, Nat.le_of_ble_eq_true rfl⟩ rfl (rest := []) rfl (Nat.le_of_ble_eq_true rfl) dX3_now_60 (fun H locs hz4 hd => ?_)
        refine lv_if_eq (tgt := 70) hx hb dX3_now_63 (by decide) (fun hc5 => ?_) (fun hc5 => ?_)
        · replace he := i_t hc5 he
          refine lv_iconst (v := 0) hx hb dX3_now_70 (by decide) ?_
          exact retIe (cf := (cC G)) C hr hlk hd he dX3_now_71
        · replace he := i_f hc5 he
          refine lv_iconst (v := 1) hx hb dX3_now_66 (by decide) ?_
          refine lv_goto (tgt := 71) hx hb dX3_now_67 (by decide) ?_
          exact retIe (cf := (cC G)) C hr hlk hd he dX3_now_71
      · replace he := ite_cases he
        rcases he with ⟨hc6, he⟩ | ⟨hc6, he⟩
        · refine rtabIn (k := 3) (off := 71) (tgt := 72) hx hb dX3_now_1 hc6 (by decide) (by decide) rfl (by decide) ?_
          refine lv_aload_n hx hb dX3_now_72 rfl (lv_at hl 0 rfl) ?_
          refine rgetf C hd (by decide) cC24 rfl tgX3 0 (by decide) uw199 rfl dX3_now_73 ?_
          replace he := b_some he
          obtain ⟨⟨r7, V7⟩, h7, he⟩ := he
          refine kVI C hd hl.1 kw_X3_126 (lt_moor (by decide)) (cC_moor (by decide)) rfl (c_X0_keptSet l G ks hJ (by decide) h7) ⟨Nat.le_of_ble_eq_true rfl, Nat.le_of_ble_eq_true rfl⟩ rfl (rest := []) rfl (Nat.le_of_ble_eq_true rfl) dX3_now_76 (fun H locs hd => ?_)
          exact retIe (cf := (cC G)) C hr hlk hd he dX3_now_79
        · replace he := ite_cases he
          rcases he with ⟨hc8, he⟩ | ⟨hc8, he⟩
          · refine rtabIn (k := 4) (off := 79) (tgt := 80) hx hb dX3_now_1 hc8 (by decide) (by decide) rfl (by decide) ?_
            refine lv_aload_n hx hb dX3_now_80 rfl (lv_at hl 0 rfl) ?_
            refine rgetf C hd (by decide) cC24 rfl tgX3 0 (by decide) uw199 rfl dX3_now_81 ?_
            replace he := b_some he
            obtain ⟨⟨r9, V9⟩, h9, he⟩ := he
            refine kVI C hd hl.1 kw_X3_145 (lt_moor (by decide)) (cC_moor (by decide)) rfl (c_X0_gladSet l G ks hJ (by decide) h9) ⟨Nat.le_of_ble_eq_true rfl, Nat.le_of_ble_eq_true rfl⟩ rfl (rest := []) rfl (Nat.le_of_ble_eq_true rfl) dX3_now_84 (fun H locs hd => ?_)
            exact retIe (cf := (cC G)) C hr hlk hd he dX3_now_87
          · replace he := ite_cases he
            rcases he with ⟨hc10, he⟩ | ⟨hc10, he⟩
            · refine rtabIn (k := 5) (off := 87) (tgt := 88) hx hb dX3_now_1 hc10 (by decide) (by decide) rfl (by decide) ?_
              refine lv_aload_n hx hb dX3_now_88 rfl (lv_at hl 0 rfl) ?_
              refine rgetf C hd (by decide) cC24 rfl tgX3 0 (by decide) uw199 rfl dX3_now_89 ?_
              refine rgetf C hd (lt_moor (by decide)) (cC_moor (by decide)) rfl tgX0 2 (by decide) uw105 rfl dX3_now_92 ?_
              exact retIe (cf := (cC G)) C hr hlk hd he dX3_now_95
            · refine lv_tableOut (tgt := 96) hx hb dX3_now_1 (tbl_out (fun k k1 k2 => by rcases (show k = 0 ∨ k = 1 ∨ k = 2 ∨ k = 3 ∨ k = 4 ∨ k = 5 by omega) with rfl | rfl | rfl | rfl | rfl | rfl <;> first | exact hc1 | exact hc2 | exact hc3 | exact hc6 | exact hc8 | exact hc10)) (by decide) ?_
              refine lv_aload_n hx hb dX3_now_96 rfl (lv_at hl 0 rfl) ?_
              refine lv_ldc hx hb hown (hts _ uw226) dX3_now_97 ?_
              replace he := b_some he
              obtain ⟨⟨r11, V11⟩, h11, he⟩ := he
              refine kVI C hd hl.1 kw_X3_46 (by decide) cC24 rfl (c_X3_finding l G ks hJ h11) ⟨Nat.le_of_ble_eq_true rfl, Nat.le_of_ble_eq_true rfl⟩ rfl (rest := []) rfl (Nat.le_of_ble_eq_true rfl) dX3_now_99 (fun H locs hd => ?_)
              exact retIe (cf := (cC G)) C hr hlk hd he dX3_now_102
set_option maxRecDepth 100000 in
set_option maxHeartbeats 4000000 in
theorem c_X0_takeFrom (l : Launch) (G : Gd) (ks : Ks) (hJ : Inj 37 G.2.2) {j : Nat} {i : Nat} (hj : j < 3) (hi : i < 3) {V V' : VV} (he : f_X0_takeFrom j i V = some V') : MV l 37 G (XC G ks) yX0_takeFrom cX0_takeFrom 2 1 30 [.ref (G.2.2 (8 * j)), .ref (G.2.2 (8 * i))] (cC G V) (cC G V') := by
  refine walk_of (own := RX0) (by decide) rfl hJ (xs_C G ks) (Nat.le_of_ble_eq_true rfl) ?_
  intro p e s m below meth c C hr hlk ls hl hd
  have hl : lv_has ls 2 [(0, .ref (G.2.2 (8 * j))), (1, .ref (G.2.2 (8 * i)))] := hl
  obtain ⟨⟨hx, hb, hml, hown, hts⟩, -⟩ := id C
  unfold f_X0_takeFrom at he
  refine lv_aload_n hx hb dX0_takeFrom_0 rfl (lv_at hl 0 rfl) ?_
  refine lv_aload_n hx hb dX0_takeFrom_1 rfl (lv_at hl 1 rfl) ?_
  refine rgetf C hd (lt_moor hi) (cC_moor hi) rfl tgX0 0 (by decide) uw99 rfl dX0_takeFrom_2 ?_
  replace he := bv_ex he
  obtain ⟨V1, e1, he⟩ := he
  refine rputf (cell' := (cC G) V1) C hd (lt_moor hj) (cC_moor hj) rfl tgX0 tyX0 tyX0_ok nmX0 0 (by decide) uw99 rfl (tyX0_ok 0 (by decide)) rfl rfl (Nat.le_of_ble_eq_true rfl) (cC_moor_w hj (by decide) e1) (cC_ne e1) dX0_takeFrom_5 (fun H locs hd => ?_)
  refine lv_aload_n hx hb dX0_takeFrom_8 rfl (lv_at hl 0 rfl) ?_
  refine lv_aload_n hx hb dX0_takeFrom_9 rfl (lv_at hl 1 rfl) ?_
  refine rgetf C hd (lt_moor hi) (cC_moor hi) rfl tgX0 1 (by decide) uw101 rfl dX0_takeFrom_10 ?_
  replace he := bv_ex he
  obtain ⟨V2, e2, he⟩ := he
  refine rputf (cell' := (cC G) V2) C hd (lt_moor hj) (cC_moor hj) rfl tgX0 tyX0 tyX0_ok nmX0 1 (by decide) uw101 rfl (tyX0_ok 1 (by decide)) rfl rfl (Nat.le_of_ble_eq_true rfl) (cC_moor_w hj (by decide) e2) (cC_ne e2) dX0_takeFrom_13 (fun H locs hd => ?_)
  refine lv_aload_n hx hb dX0_takeFrom_16 rfl (lv_at hl 0 rfl) ?_
  refine lv_aload_n hx hb dX0_takeFrom_17 rfl (lv_at hl 1 rfl) ?_
  refine rgetf C hd (lt_moor hi) (cC_moor hi) rfl tgX0 2 (by decide) uw104 rfl dX0_takeFrom_18 ?_
  replace he := bv_ex he
  obtain ⟨V3, e3, he⟩ := he
  refine rputf (cell' := (cC G) V3) C hd (lt_moor hj) (cC_moor hj) rfl tgX0 tyX0 tyX0_ok nmX0 2 (by decide) uw104 rfl (tyX0_ok 2 (by decide)) rfl rfl (Nat.le_of_ble_eq_true rfl) (cC_moor_w hj (by decide) e3) (cC_ne e3) dX0_takeFrom_21 (fun H locs hd => ?_)
  refine lv_aload_n hx hb dX0_takeFrom_24 rfl (lv_at hl 0 rfl) ?_
  refine lv_aload_n hx hb dX0_takeFrom_25 rfl (lv_at hl 1 rfl) ?_
  refine rgetf C hd (lt_moor hi) (cC_moor hi) rfl tgX0 3 (by decide) uw107 rfl dX0_takeFrom_26 ?_
  replace he := bv_ex he
  obtain ⟨V4, e4, he⟩ := he
  refine rputf (cell' := (cC G) V4) C hd (lt_moor hj) (cC_moor hj) rfl tgX0 tyX0 tyX0_ok nmX0 3 (by decide) uw107 rfl (tyX0_ok 3 (by decide)) rfl rfl (Nat.le_of_ble_eq_true rfl) (cC_moor_w hj (by decide) e4) (cC_ne e4) dX0_takeFrom_29 (fun H locs hd => ?_)
  refine lv_aload_n hx hb dX0_takeFrom_32 rfl (lv_at hl 1 rfl) ?_
  refine rgetf C hd (lt_moor hi) (cC_moor hi) rfl tgX0 4 (by decide) uw109 rfl dX0_takeFrom_33 ?_
  refine lv_iconst (v := 0) hx hb dX0_takeFrom_36 (by decide) ?_
  refine lv_aload_n hx hb dX0_takeFrom_37 rfl (lv_at hl 0 rfl) ?_
  refine rgetf C hd (lt_moor hj) (cC_moor hj) rfl tgX0 4 (by decide) uw109 rfl dX0_takeFrom_38 ?_
  refine lv_iconst (v := 0) hx hb dX0_takeFrom_41 (by decide) ?_
  refine lv_bipush (v := 8) hx hb dX0_takeFrom_42 (by decide) ?_
  replace he := g_some he
  obtain ⟨hi5, he⟩ := he
  replace he := bv_ex he
  obtain ⟨V6, e6, he⟩ := he
  refine rcpI (cell' := cC G V6) (rest := []) C hd hl.1 (lt_marr hi 1 (by decide)) (cC_marr hi 1 (by decide) (by decide)) (lt_marr hj 1 (by decide)) (cC_marr hj 1 (by decide) (by decide)) aw_X0 hi5 (cC_marr_c hj 1 (by decide) (by decide) e6) (cC_neC e6) ⟨Nat.le_of_ble_eq_true rfl, Nat.le_of_ble_eq_true rfl⟩ (Nat.le_of_ble_eq_true rfl) dX0_takeFrom_44 (fun H locs hd => ?_)
  refine lv_aload_n hx hb dX0_takeFrom_47 rfl (lv_at hl 1 rfl) ?_
  refine rgetf C hd (lt_moor hi) (cC_moor hi) rfl tgX0 5 (by decide) uw111 rfl dX0_takeFrom_48 ?_
  refine lv_iconst (v := 0) hx hb dX0_takeFrom_51 (by decide) ?_
  refine lv_aload_n hx hb dX0_takeFrom_52 rfl (lv_at hl 0 rfl) ?_
  refine rgetf C hd (lt_moor hj) (cC_moor hj) rfl tgX0 5 (by decide) uw111 rfl dX0_takeFrom_53 ?_
  refine lv_iconst (v := 0) hx hb dX0_takeFrom_56 (by decide) ?_
  refine lv_bipush (v := 8) hx hb dX0_takeFrom_57 (by decide) ?_
  replace he := g_some he
  obtain ⟨hi7, he⟩ := he
  replace he := bv_ex he
  obtain ⟨V8, e8, he⟩ := he
  refine rcpI (cell' := cC G V8) (rest := []) C hd hl.1 (lt_marr hi 2 (by decide)) (cC_marr hi 2 (by decide) (by decide)) (lt_marr hj 2 (by decide)) (cC_marr hj 2 (by decide) (by decide)) aw_X0 hi7 (cC_marr_c hj 2 (by decide) (by decide) e8) (cC_neC e8) ⟨Nat.le_of_ble_eq_true rfl, Nat.le_of_ble_eq_true rfl⟩ (Nat.le_of_ble_eq_true rfl) dX0_takeFrom_59 (fun H locs hd => ?_)
  refine lv_aload_n hx hb dX0_takeFrom_62 rfl (lv_at hl 1 rfl) ?_
  refine rgetf C hd (lt_moor hi) (cC_moor hi) rfl tgX0 6 (by decide) uw113 rfl dX0_takeFrom_63 ?_
  refine lv_iconst (v := 0) hx hb dX0_takeFrom_66 (by decide) ?_
  refine lv_aload_n hx hb dX0_takeFrom_67 rfl (lv_at hl 0 rfl) ?_
  refine rgetf C hd (lt_moor hj) (cC_moor hj) rfl tgX0 6 (by decide) uw113 rfl dX0_takeFrom_68 ?_
  refine lv_iconst (v := 0) hx hb dX0_takeFrom_71 (by decide) ?_
  refine lv_bipush (v := 8) hx hb dX0_takeFrom_72 (by decide) ?_
  replace he := g_some he
  obtain ⟨hi9, he⟩ := he
  replace he := bv_ex he
  obtain ⟨V10, e10, he⟩ := he
  refine rcpI (cell' := cC G V10) (rest := []) C hd hl.1 (lt_marr hi 3 (by decide)) (cC_marr hi 3 (by decide) (by decide)) (lt_marr hj 3 (by decide)) (cC_marr hj 3 (by decide) (by decide)) aw_X0 hi9 (cC_marr_c hj 3 (by decide) (by decide) e10) (cC_neC e10) ⟨Nat.le_of_ble_eq_true rfl, Nat.le_of_ble_eq_true rfl⟩ (Nat.le_of_ble_eq_true rfl) dX0_takeFrom_74 (fun H locs hd => ?_)
  refine lv_aload_n hx hb dX0_takeFrom_77 rfl (lv_at hl 1 rfl) ?_
  refine rgetf C hd (lt_moor hi) (cC_moor hi) rfl tgX0 7 (by decide) uw115 rfl dX0_takeFrom_78 ?_
  refine lv_iconst (v := 0) hx hb dX0_takeFrom_81 (by decide) ?_
  refine lv_aload_n hx hb dX0_takeFrom_82 rfl (lv_at hl 0 rfl) ?_
  refine rgetf C hd (lt_moor hj) (cC_moor hj) rfl tgX0 7 (by decide) uw115 rfl dX0_takeFrom_83 ?_
  refine lv_iconst (v := 0) hx hb dX0_takeFrom_86 (by decide) ?_
  refine lv_bipush (v := 8) hx hb dX0_takeFrom_87 (by decide) ?_
  replace he := g_some he
  obtain ⟨hi11, he⟩ := he
  replace he := bv_ex he
  obtain ⟨V12, e12, he⟩ := he
  refine rcpI (cell' := cC G V12) (rest := []) C hd hl.1 (lt_marr hi 4 (by decide)) (cC_marr hi 4 (by decide) (by decide)) (lt_marr hj 4 (by decide)) (cC_marr hj 4 (by decide) (by decide)) aw_X0 hi11 (cC_marr_c hj 4 (by decide) (by decide) e12) (cC_neC e12) ⟨Nat.le_of_ble_eq_true rfl, Nat.le_of_ble_eq_true rfl⟩ (Nat.le_of_ble_eq_true rfl) dX0_takeFrom_89 (fun H locs hd => ?_)
  refine lv_aload_n hx hb dX0_takeFrom_92 rfl (lv_at hl 1 rfl) ?_
  refine rgetf C hd (lt_moor hi) (cC_moor hi) rfl tgX0 8 (by decide) uw118 rfl dX0_takeFrom_93 ?_
  refine lv_iconst (v := 0) hx hb dX0_takeFrom_96 (by decide) ?_
  refine lv_aload_n hx hb dX0_takeFrom_97 rfl (lv_at hl 0 rfl) ?_
  refine rgetf C hd (lt_moor hj) (cC_moor hj) rfl tgX0 8 (by decide) uw118 rfl dX0_takeFrom_98 ?_
  refine lv_iconst (v := 0) hx hb dX0_takeFrom_101 (by decide) ?_
  refine lv_bipush (v := 8) hx hb dX0_takeFrom_102 (by decide) ?_
  replace he := g_some he
  obtain ⟨hi13, he⟩ := he
  replace he := bv_ex he
  obtain ⟨V14, e14, he⟩ := he
  refine rcpI (cell' := cC G V14) (rest := []) C hd hl.1 (lt_marr hi 5 (by decide)) (cC_marr hi 5 (by decide) (by decide)) (lt_marr hj 5 (by decide)) (cC_marr hj 5 (by decide) (by decide)) aw_X0 hi13 (cC_marr_c hj 5 (by decide) (by decide) e14) (cC_neC e14) ⟨Nat.le_of_ble_eq_true rfl, Nat.le_of_ble_eq_true rfl⟩ (Nat.le_of_ble_eq_true rfl) dX0_takeFrom_104 (fun H locs hd => ?_)
  refine lv_aload_n hx hb dX0_takeFrom_107 rfl (lv_at hl 1 rfl) ?_
  refine rgetf C hd (lt_moor hi) (cC_moor hi) rfl tgX0 9 (by decide) uw121 rfl dX0_takeFrom_108 ?_
  refine lv_iconst (v := 0) hx hb dX0_takeFrom_111 (by decide) ?_
  refine lv_aload_n hx hb dX0_takeFrom_112 rfl (lv_at hl 0 rfl) ?_
  refine rgetf C hd (lt_moor hj) (cC_moor hj) rfl tgX0 9 (by decide) uw121 rfl dX0_takeFrom_113 ?_
  refine lv_iconst (v := 0) hx hb dX0_takeFrom_116 (by decide) ?_
  refine lv_bipush (v := 8) hx hb dX0_takeFrom_117 (by decide) ?_
  replace he := g_some he
  obtain ⟨hi15, he⟩ := he
  replace he := bv_ex he
  obtain ⟨V16, e16, he⟩ := he
  refine rcpI (cell' := cC G V16) (rest := []) C hd hl.1 (lt_marr hi 6 (by decide)) (cC_marr hi 6 (by decide) (by decide)) (lt_marr hj 6 (by decide)) (cC_marr hj 6 (by decide) (by decide)) aw_X0 hi15 (cC_marr_c hj 6 (by decide) (by decide) e16) (cC_neC e16) ⟨Nat.le_of_ble_eq_true rfl, Nat.le_of_ble_eq_true rfl⟩ (Nat.le_of_ble_eq_true rfl) dX0_takeFrom_119 (fun H locs hd => ?_)
  refine lv_aload_n hx hb dX0_takeFrom_122 rfl (lv_at hl 1 rfl) ?_
  refine rgetf C hd (lt_moor hi) (cC_moor hi) rfl tgX0 10 (by decide) uw123 rfl dX0_takeFrom_123 ?_
  refine lv_iconst (v := 0) hx hb dX0_takeFrom_126 (by decide) ?_
  refine lv_aload_n hx hb dX0_takeFrom_127 rfl (lv_at hl 0 rfl) ?_
  refine rgetf C hd (lt_moor hj) (cC_moor hj) rfl tgX0 10 (by decide) uw123 rfl dX0_takeFrom_128 ?_
  refine lv_iconst (v := 0) hx hb dX0_takeFrom_131 (by decide) ?_
  refine lv_bipush (v := 8) hx hb dX0_takeFrom_132 (by decide) ?_
  replace he := g_some he
  obtain ⟨hi17, he⟩ := he
  replace he := bv_ex he
  obtain ⟨V18, e18, he⟩ := he
  refine rcpI (cell' := cC G V18) (rest := []) C hd hl.1 (lt_marr hi 7 (by decide)) (cC_marr hi 7 (by decide) (by decide)) (lt_marr hj 7 (by decide)) (cC_marr hj 7 (by decide) (by decide)) aw_X0 hi17 (cC_marr_c hj 7 (by decide) (by decide) e18) (cC_neC e18) ⟨Nat.le_of_ble_eq_true rfl, Nat.le_of_ble_eq_true rfl⟩ (Nat.le_of_ble_eq_true rfl) dX0_takeFrom_134 (fun H locs hd => ?_)
  exact retVe (cf := (cC G)) C hr hlk hd he dX0_takeFrom_137
set_option maxRecDepth 100000 in
set_option maxHeartbeats 4000000 in
theorem c_X3_on (l : Launch) (G : Gd) (ks : Ks) (hJ : Inj 37 G.2.2) {a1 : Int32} {a2 : Int32} {a3 : Int32} {V V' : VV} {r : Int32} (he : f_X3_on a1 a2 a3 V = some (r, V')) : MI l 37 G (XC G ks) yX3_on cX3_on 4 5 109 [.ref (G.2.2 24), .int a1, .int a2, .int a3] (cC G V) (cC G V') r := by
  refine walk_of (own := RX3) (by decide) rfl hJ (xs_C G ks) (Nat.le_of_ble_eq_true rfl) ?_
  intro p e s m below meth c C hr hlk ls hl hd
  have hl : lv_has ls 4 [(0, .ref (G.2.2 24)), (1, .int a1), (2, .int a2), (3, .int a3)] := hl
  obtain ⟨⟨hx, hb, hml, hown, hts⟩, -⟩ := id C
  unfold f_X3_on at he
  refine lv_aload_n hx hb dX3_on_0 rfl (lv_at hl 0 rfl) ?_
  refine rgetf C hd (by decide) cC24 rfl tgX3 0 (by decide) uw199 rfl dX3_on_1 ?_
  refine lv_iload_n hx hb dX3_on_4 rfl (lv_at hl 1 rfl) ?_
  replace he := b_some he
  obtain ⟨⟨r1, V1⟩, h1, he⟩ := he
  refine kVZ C hd hl.1 kw_X3_76 (lt_moor (by decide)) (cC_moor (by decide)) rfl (c_X0_has l G ks hJ (by decide) h1) ⟨Nat.le_of_ble_eq_true rfl, Nat.le_of_ble_eq_true rfl⟩ rfl (rest := []) rfl (Nat.le_of_ble_eq_true rfl) dX3_on_5 (fun H locs hz1 hd => ?_)
  refine lv_if_eq (tgt := 30) hx hb dX3_on_8 (by decide) (fun hc2 => ?_) (fun hc2 => ?_)
  · replace he := i_t hc2 he
    refine lv_aload_n hx hb dX3_on_30 rfl (lv_at hl 0 rfl) ?_
    refine lv_ldc hx hb hown (hts _ uw226) dX3_on_31 ?_
    replace he := b_some he
    obtain ⟨⟨r3, V3⟩, h3, he⟩ := he
    refine kVI C hd hl.1 kw_X3_46 (by decide) cC24 rfl (c_X3_finding l G ks hJ h3) ⟨Nat.le_of_ble_eq_true rfl, Nat.le_of_ble_eq_true rfl⟩ rfl (rest := []) rfl (Nat.le_of_ble_eq_true rfl) dX3_on_33 (fun H locs hd => ?_)
    exact retIe (cf := (cC G)) C hr hlk hd he dX3_on_36
  · replace he := i_f hc2 he
    refine lv_iload_n hx hb dX3_on_11 rfl (lv_at hl 2 rfl) ?_
    refine lv_if_lt (tgt := 30) hx hb dX3_on_12 (by decide) (fun hc4 => ?_) (fun hc4 => ?_)
    · replace he := i_t hc4 he
      refine lv_aload_n hx hb dX3_on_30 rfl (lv_at hl 0 rfl) ?_
      refine lv_ldc hx hb hown (hts _ uw226) dX3_on_31 ?_
      replace he := b_some he
      obtain ⟨⟨r5, V5⟩, h5, he⟩ := he
      refine kVI C hd hl.1 kw_X3_46 (by decide) cC24 rfl (c_X3_finding l G ks hJ h5) ⟨Nat.le_of_ble_eq_true rfl, Nat.le_of_ble_eq_true rfl⟩ rfl (rest := []) rfl (Nat.le_of_ble_eq_true rfl) dX3_on_33 (fun H locs hd => ?_)
      exact retIe (cf := (cC G)) C hr hlk hd he dX3_on_36
    · replace he := i_f hc4 he
      refine lv_iload_n hx hb dX3_on_15 rfl (lv_at hl 2 rfl) ?_
      refine lv_bipush (v := 60) hx hb dX3_on_16 (by decide) ?_
      refine lv_icmp_gt (tgt := 30) hx hb dX3_on_18 (by decide) (fun hc6 => ?_) (fun hc6 => ?_)
      · replace he := i_t hc6 he
        refine lv_aload_n hx hb dX3_on_30 rfl (lv_at hl 0 rfl) ?_
        refine lv_ldc hx hb hown (hts _ uw226) dX3_on_31 ?_
        replace he := b_some he
        obtain ⟨⟨r7, V7⟩, h7, he⟩ := he
        refine kVI C hd hl.1 kw_X3_46 (by decide) cC24 rfl (c_X3_finding l G ks hJ h7) ⟨Nat.le_of_ble_eq_true rfl, Nat.le_of_ble_eq_true rfl⟩ rfl (rest := []) rfl (Nat.le_of_ble_eq_true rfl) dX3_on_33 (fun H locs hd => ?_)
        exact retIe (cf := (cC G)) C hr hlk hd he dX3_on_36
      · replace he := i_f hc6 he
        refine lv_iload_n hx hb dX3_on_21 rfl (lv_at hl 3 rfl) ?_
        refine lv_if_lt (tgt := 30) hx hb dX3_on_22 (by decide) (fun hc8 => ?_) (fun hc8 => ?_)
        · replace he := i_t hc8 he
          refine lv_aload_n hx hb dX3_on_30 rfl (lv_at hl 0 rfl) ?_
          refine lv_ldc hx hb hown (hts _ uw226) dX3_on_31 ?_
          replace he := b_some he
          obtain ⟨⟨r9, V9⟩, h9, he⟩ := he
          refine kVI C hd hl.1 kw_X3_46 (by decide) cC24 rfl (c_X3_finding l G ks hJ h9) ⟨Nat.le_of_ble_eq_true rfl, Nat.le_of_ble_eq_true rfl⟩ rfl (rest := []) rfl (Nat.le_of_ble_eq_true rfl) dX3_on_33 (fun H locs hd => ?_)
          exact retIe (cf := (cC G)) C hr hlk hd he dX3_on_36
        · replace he := i_f hc8 he
          refine lv_iload_n hx hb dX3_on_25 rfl (lv_at hl 3 rfl) ?_
          refine lv_iconst (v := 2) hx hb dX3_on_26 (by decide) ?_
          refine lv_icmp_le (tgt := 37) hx hb dX3_on_27 (by decide) (fun hc10 => ?_) (fun hc10 => ?_)
          · replace he := i_t hc10 he
            refine lv_aload_n hx hb dX3_on_37 rfl (lv_at hl 0 rfl) ?_
            refine rgetf C hd (by decide) cC24 rfl tgX3 1 (by decide) uw200 rfl dX3_on_38 ?_
            refine lv_aload_n hx hb dX3_on_41 rfl (lv_at hl 0 rfl) ?_
            refine rgetf C hd (by decide) cC24 rfl tgX3 0 (by decide) uw199 rfl dX3_on_42 ?_
            replace he := b_some he
            obtain ⟨V11, h11, he⟩ := he
            refine kVV C hd hl.1 kw_X3_148 (lt_moor (by decide)) (cC_moor (by decide)) rfl (c_X0_takeFrom l G ks hJ (by decide) (by decide) h11) ⟨Nat.le_of_ble_eq_true rfl, Nat.le_of_ble_eq_true rfl⟩ rfl (rest := []) rfl (Nat.le_of_ble_eq_true rfl) dX3_on_45 (fun H locs hd => ?_)
            refine lv_aload_n hx hb dX3_on_48 rfl (lv_at hl 0 rfl) ?_
            refine rgetf C hd (by decide) cC24 rfl tgX3 1 (by decide) uw200 rfl dX3_on_49 ?_
            refine lv_iload_n hx hb dX3_on_52 rfl (lv_at hl 2 rfl) ?_
            replace he := b_some he
            obtain ⟨V12, h12, he⟩ := he
            refine kVV C hd hl.1 kw_X3_139 (lt_moor (by decide)) (cC_moor (by decide)) rfl (c_X0_pass l G ks hJ (by decide) h12) ⟨Nat.le_of_ble_eq_true rfl, Nat.le_of_ble_eq_true rfl⟩ rfl (rest := []) rfl (Nat.le_of_ble_eq_true rfl) dX3_on_53 (fun H locs hd => ?_)
            refine lv_iload_n hx hb dX3_on_56 rfl (lv_at hl 3 rfl) ?_
            refine lv_if_ne (tgt := 70) hx hb dX3_on_57 (by decide) (fun hc13 => ?_) (fun hc13 => ?_)
            · replace he := i_f hc13 he
              refine lv_iload_n hx hb dX3_on_70 rfl (lv_at hl 3 rfl) ?_
              refine lv_iconst (v := 1) hx hb dX3_on_71 (by decide) ?_
              refine lv_icmp_ne (tgt := 87) hx hb dX3_on_72 (by decide) (fun hc14 => ?_) (fun hc14 => ?_)
              · replace he := i_f hc14 he
                refine lv_aload_n hx hb dX3_on_87 rfl (lv_at hl 0 rfl) ?_
                refine rgetf C hd (by decide) cC24 rfl tgX3 1 (by decide) uw200 rfl dX3_on_88 ?_
                refine rgetf C hd (lt_moor (by decide)) (cC_moor (by decide)) rfl tgX0 10 (by decide) uw124 rfl dX3_on_91 ?_
                refine lv_iload_n hx hb dX3_on_94 rfl (lv_at hl 1 rfl) ?_
                replace he := g_some he
                obtain ⟨hi15, he⟩ := he
                refine riald C hd (lt_marr (by decide) 7 (by decide)) (cC_marr (by decide) 7 (by decide) (by decide)) hi15 dX3_on_95 ?_
                exact retIe (cf := (cC G)) C hr hlk hd he dX3_on_96
              · replace he := i_t hc14 he
                refine lv_aload_n hx hb dX3_on_75 rfl (lv_at hl 0 rfl) ?_
                refine rgetf C hd (by decide) cC24 rfl tgX3 1 (by decide) uw200 rfl dX3_on_76 ?_
                refine rgetf C hd (lt_moor (by decide)) (cC_moor (by decide)) rfl tgX0 9 (by decide) uw122 rfl dX3_on_79 ?_
                refine lv_iload_n hx hb dX3_on_82 rfl (lv_at hl 1 rfl) ?_
                replace he := g_some he
                obtain ⟨hi16, he⟩ := he
                refine riald C hd (lt_marr (by decide) 6 (by decide)) (cC_marr (by decide) 6 (by decide) (by decide)) hi16 dX3_on_83 ?_
                refine lv_goto (tgt := 96) hx hb dX3_on_84 (by decide) ?_
                exact retIe (cf := (cC G)) C hr hlk hd he dX3_on_96
            · replace he := i_t hc13 he
              refine lv_aload_n hx hb dX3_on_60 rfl (lv_at hl 0 rfl) ?_
              refine rgetf C hd (by decide) cC24 rfl tgX3 1 (by decide) uw200 rfl dX3_on_61 ?_
              refine rgetf C hd (lt_moor (by decide)) (cC_moor (by decide)) rfl tgX0 5 (by decide) uw112 rfl dX3_on_64 ?_
              refine lv_iload_n hx hb dX3_on_67 rfl (lv_at hl 1 rfl) ?_
              replace he := g_some he
              obtain ⟨hi17, he⟩ := he
              refine riald C hd (lt_marr (by decide) 2 (by decide)) (cC_marr (by decide) 2 (by decide) (by decide)) hi17 dX3_on_68 ?_
              exact retIe (cf := (cC G)) C hr hlk hd he dX3_on_69
          · replace he := i_f hc10 he
            refine lv_aload_n hx hb dX3_on_30 rfl (lv_at hl 0 rfl) ?_
            refine lv_ldc hx hb hown (hts _ uw226) dX3_on_31 ?_
            replace he := b_some he
            obtain ⟨⟨r18, V18⟩, h18, he⟩ := he
            refine kVI C hd hl.1 kw_X3_46 (by decide) cC24 rfl (c_X3_finding l G ks hJ h18) ⟨Nat.le_of_ble_eq_true rfl, Nat.le_of_ble_eq_true rfl⟩ rfl (rest := []) rfl (Nat.le_of_ble_eq_true rfl) dX3_on_33 (fun H locs hd => ?_)
            exact retIe (cf := (cC G)) C hr hlk hd he dX3_on_36
set_option maxRecDepth 100000 in
set_option maxHeartbeats 4000000 in
theorem c_X3_trialShows (l : Launch) (G : Gd) (ks : Ks) (hJ : Inj 37 G.2.2) {a1 : Int32} {a2 : Int32} {a3 : Int32} {V V' : VV} {r : Int32} (he : f_X3_trialShows a1 a2 a3 V = some (r, V')) : MZ l 37 G (XC G ks) yX3_trialShows cX3_trialShows 4 2 42 [.ref (G.2.2 24), .int a1, .int a2, .int a3] (cC G V) (cC G V') r := by
  refine walk_of (own := RX3) (by decide) rfl hJ (xs_C G ks) (Nat.le_of_ble_eq_true rfl) ?_
  intro p e s m below meth c C hr hlk ls hl hd
  have hl : lv_has ls 4 [(0, .ref (G.2.2 24)), (1, .int a1), (2, .int a2), (3, .int a3)] := hl
  obtain ⟨⟨hx, hb, hml, hown, hts⟩, -⟩ := id C
  unfold f_X3_trialShows at he
  refine lv_iload_n hx hb dX3_trialShows_0 rfl (lv_at hl 1 rfl) ?_
  replace he := ite_cases he
  rcases he with ⟨hc1, he⟩ | ⟨hc1, he⟩
  · refine rlookIn (k := 0) (off := 27) (tgt := 28) hx hb dX3_trialShows_1 hc1 (by decide) rfl (by decide) ?_
    refine lv_iload_n hx hb dX3_trialShows_28 rfl (lv_at hl 3 rfl) ?_
    refine lv_bipush (v := (-2)) hx hb dX3_trialShows_29 (by decide) ?_
    refine lv_icmp_ne (tgt := 53) hx hb dX3_trialShows_31 (by decide) (fun hc2 => ?_) (fun hc2 => ?_)
    · replace he := i_f hc2 he
      refine lv_aload_n hx hb dX3_trialShows_53 rfl (lv_at hl 0 rfl) ?_
      refine rgetf C hd (by decide) cC24 rfl tgX3 1 (by decide) uw200 rfl dX3_trialShows_54 ?_
      refine rgetf C hd (lt_moor (by decide)) (cC_moor (by decide)) rfl tgX0 9 (by decide) uw122 rfl dX3_trialShows_57 ?_
      refine lv_iload_n hx hb dX3_trialShows_60 rfl (lv_at hl 2 rfl) ?_
      replace he := g_some he
      obtain ⟨hi3, he⟩ := he
      refine riald C hd (lt_marr (by decide) 6 (by decide)) (cC_marr (by decide) 6 (by decide) (by decide)) hi3 dX3_trialShows_61 ?_
      refine lv_iload_n hx hb dX3_trialShows_62 rfl (lv_at hl 3 rfl) ?_
      refine lv_icmp_ne (tgt := 70) hx hb dX3_trialShows_63 (by decide) (fun hc4 => ?_) (fun hc4 => ?_)
      · replace he := i_f hc4 he
        refine lv_iconst (v := 0) hx hb dX3_trialShows_70 (by decide) ?_
        exact retZe (cf := (cC G)) C hr hlk hd rfl he dX3_trialShows_71
      · replace he := i_t hc4 he
        refine lv_iconst (v := 1) hx hb dX3_trialShows_66 (by decide) ?_
        refine lv_goto (tgt := 71) hx hb dX3_trialShows_67 (by decide) ?_
        exact retZe (cf := (cC G)) C hr hlk hd rfl he dX3_trialShows_71
    · replace he := i_t hc2 he
      refine lv_aload_n hx hb dX3_trialShows_34 rfl (lv_at hl 0 rfl) ?_
      refine rgetf C hd (by decide) cC24 rfl tgX3 1 (by decide) uw200 rfl dX3_trialShows_35 ?_
      refine lv_iload_n hx hb dX3_trialShows_38 rfl (lv_at hl 2 rfl) ?_
      replace he := b_some he
      obtain ⟨⟨r5, V5⟩, h5, he⟩ := he
      refine kVZ C hd hl.1 kw_X3_106 (lt_moor (by decide)) (cC_moor (by decide)) rfl (c_X0_isFree l G ks hJ (by decide) h5) ⟨Nat.le_of_ble_eq_true rfl, Nat.le_of_ble_eq_true rfl⟩ rfl (rest := []) rfl (Nat.le_of_ble_eq_true rfl) dX3_trialShows_39 (fun H locs hz5 hd => ?_)
      refine lv_if_ne (tgt := 49) hx hb dX3_trialShows_42 (by decide) (fun hc6 => ?_) (fun hc6 => ?_)
      · replace he := i_f hc6 he
        refine lv_iconst (v := 0) hx hb dX3_trialShows_49 (by decide) ?_
        refine lv_goto (tgt := 71) hx hb dX3_trialShows_50 (by decide) ?_
        exact retZe (cf := (cC G)) C hr hlk hd rfl he dX3_trialShows_71
      · replace he := i_t hc6 he
        refine lv_iconst (v := 1) hx hb dX3_trialShows_45 (by decide) ?_
        refine lv_goto (tgt := 71) hx hb dX3_trialShows_46 (by decide) ?_
        exact retZe (cf := (cC G)) C hr hlk hd rfl he dX3_trialShows_71
  · replace he := ite_cases he
    rcases he with ⟨hc7, he⟩ | ⟨hc7, he⟩
    · refine rlookIn (k := 1) (off := 71) (tgt := 72) hx hb dX3_trialShows_1 hc7 (by decide) rfl (by decide) ?_
      refine lv_aload_n hx hb dX3_trialShows_72 rfl (lv_at hl 0 rfl) ?_
      refine rgetf C hd (by decide) cC24 rfl tgX3 1 (by decide) uw200 rfl dX3_trialShows_73 ?_
      refine lv_iload_n hx hb dX3_trialShows_76 rfl (lv_at hl 2 rfl) ?_
      replace he := b_some he
      obtain ⟨⟨r8, V8⟩, h8, he⟩ := he
      refine kVZ C hd hl.1 kw_X3_106 (lt_moor (by decide)) (cC_moor (by decide)) rfl (c_X0_isFree l G ks hJ (by decide) h8) ⟨Nat.le_of_ble_eq_true rfl, Nat.le_of_ble_eq_true rfl⟩ rfl (rest := []) rfl (Nat.le_of_ble_eq_true rfl) dX3_trialShows_77 (fun H locs hz8 hd => ?_)
      exact retZe (cf := (cC G)) C hr hlk hd hz8 he dX3_trialShows_80
    · refine lv_lookup (off := 80) (tgt := 81) hx hb dX3_trialShows_1 (by decide) (look_out2 (a := 0) (b := 1) hc1 hc7) (by decide) ?_
      refine lv_aload_n hx hb dX3_trialShows_81 rfl (lv_at hl 0 rfl) ?_
      refine rgetf C hd (by decide) cC24 rfl tgX3 1 (by decide) uw200 rfl dX3_trialShows_82 ?_
      refine lv_iload_n hx hb dX3_trialShows_85 rfl (lv_at hl 2 rfl) ?_
      replace he := b_some he
      obtain ⟨⟨r9, V9⟩, h9, he⟩ := he
      refine kVZ C hd hl.1 kw_X3_238 (lt_moor (by decide)) (cC_moor (by decide)) rfl (c_X0_isGlad l G ks hJ (by decide) h9) ⟨Nat.le_of_ble_eq_true rfl, Nat.le_of_ble_eq_true rfl⟩ rfl (rest := []) rfl (Nat.le_of_ble_eq_true rfl) dX3_trialShows_86 (fun H locs hz9 hd => ?_)
      exact retZe (cf := (cC G)) C hr hlk hd hz9 he dX3_trialShows_89
set_option maxRecDepth 100000 in
set_option maxHeartbeats 4000000 in
theorem c_X3_firstInTrial (l : Launch) (G : Gd) (ks : Ks) (hJ : Inj 37 G.2.2) {a1 : Int32} {a2 : Int32} {a3 : Int32} {a4 : Int32} {V V' : VV} {r : Int32} (he : f_X3_firstInTrial a1 a2 a3 a4 V = some (r, V')) : MI l 37 G (XC G ks) yX3_firstInTrial cX3_firstInTrial 6 4 87 [.ref (G.2.2 24), .int a1, .int a2, .int a3, .int a4] (cC G V) (cC G V') r := by
  refine walk_of (own := RX3) (by decide) rfl hJ (xs_C G ks) (Nat.le_of_ble_eq_true rfl) ?_
  intro p e s m below meth c C hr hlk ls hl hd
  have hl : lv_has ls 6 [(0, .ref (G.2.2 24)), (1, .int a1), (2, .int a2), (3, .int a3), (4, .int a4)] := hl
  obtain ⟨⟨hx, hb, hml, hown, hts⟩, -⟩ := id C
  have L3 : ∀ (fuel : Nat), ∀ (x1 : Int32) (x2 : Int32) (x3 : Int32) (x4 : Int32) (x5 : Int32) (V : VV) (H : Heap) (locs : List Loc) (ls : Array Slot), lv_has ls 6 [(0, .ref (G.2.2 24)), (1, .int x1), (2, .int x2), (3, .int x3), (4, .int x4), (5, .int x5)] → Dy 37 G (cC G V) s H locs → f_X3_firstInTrial_L3 fuel x1 x2 x3 x4 x5 V = some (r, V') → W p l e (rmF 4 87) s m ([.ref (G.2.2 24), .int a1, .int a2, .int a3, .int a4] : List Value).toArray below meth c H locs 0 0 (MQ below (QI 37 G (cC G V') (fun r' => r' = r)) ([.ref (G.2.2 24), .int a1, .int a2, .int a3, .int a4] : List Value).toArray s 0 0 (inA 37 G.2.2)) (F0 m 3 ls []) := by
    intro fuel
    induction fuel with
    | zero => intro x1 x2 x3 x4 x5 V H locs ls hl hd he; simp [f_X3_firstInTrial_L3] at he
    | succ n ih3 =>
      intro x1 x2 x3 x4 x5 V H locs ls hl hd he
      rw [f_X3_firstInTrial_L3] at he
      refine lv_iload hx hb dX3_firstInTrial_3 (lv_at hl 5 rfl) ?_
      refine lv_iload hx hb dX3_firstInTrial_5 (lv_at hl 4 rfl) ?_
      refine lv_icmp_gt (tgt := 43) hx hb dX3_firstInTrial_7 (by decide) (fun hc1 => ?_) (fun hc1 => ?_)
      · replace he := i_t hc1 he
        refine lv_iconst (v := (-1)) hx hb dX3_firstInTrial_43 (by decide) ?_
        exact retIe (cf := (cC G)) C hr hlk hd he dX3_firstInTrial_44
      · replace he := i_f hc1 he
        refine lv_aload_n hx hb dX3_firstInTrial_10 rfl (lv_at hl 0 rfl) ?_
        refine lv_iload_n hx hb dX3_firstInTrial_11 rfl (lv_at hl 1 rfl) ?_
        refine lv_iload_n hx hb dX3_firstInTrial_12 rfl (lv_at hl 2 rfl) ?_
        refine lv_iload_n hx hb dX3_firstInTrial_13 rfl (lv_at hl 3 rfl) ?_
        replace he := b_some he
        obtain ⟨⟨r2, V2⟩, h2, he⟩ := he
        refine kVZ C hd hl.1 kw_X3_234 (by decide) cC24 rfl (c_X3_trialShows l G ks hJ h2) ⟨Nat.le_of_ble_eq_true rfl, Nat.le_of_ble_eq_true rfl⟩ rfl (rest := []) rfl (Nat.le_of_ble_eq_true rfl) dX3_firstInTrial_14 (fun H locs hz2 hd => ?_)
        refine lv_if_eq (tgt := 23) hx hb dX3_firstInTrial_17 (by decide) (fun hc3 => ?_) (fun hc3 => ?_)
        · replace he := i_t hc3 he
          refine lv_iload hx hb dX3_firstInTrial_23 (lv_at hl 5 rfl) ?_
          refine lv_iload hx hb dX3_firstInTrial_25 (lv_at hl 4 rfl) ?_
          refine lv_icmp_ge (tgt := 37) hx hb dX3_firstInTrial_27 (by decide) (fun hc4 => ?_) (fun hc4 => ?_)
          · replace he := i_t hc4 he
            refine lv_iinc (v := _ + 1) (lv' := [(5, .int _), (0, .ref _), (1, .int _), (2, .int _), (3, .int _), (4, .int _)]) hx hb dX3_firstInTrial_37 hl (k := 5) rfl rfl (by decide) rfl (fun ls hl => ?_)
            refine lv_goto (tgt := 3) hx hb dX3_firstInTrial_40 (by decide) ?_
            exact ih3 _ _ _ _ _ _ _ _ _ (lv_sub hl [1, 2, 3, 4, 5, 0] rfl) hd he
          · replace he := i_f hc4 he
            refine lv_aload_n hx hb dX3_firstInTrial_30 rfl (lv_at hl 0 rfl) ?_
            refine rgetf C hd (by decide) cC24 rfl tgX3 1 (by decide) uw200 rfl dX3_firstInTrial_31 ?_
            replace he := b_some he
            obtain ⟨V5, h5, he⟩ := he
            refine kVV C hd hl.1 kw_X3_223 (lt_moor (by decide)) (cC_moor (by decide)) rfl (c_X0_passHour l G ks hJ (by decide) h5) ⟨Nat.le_of_ble_eq_true rfl, Nat.le_of_ble_eq_true rfl⟩ rfl (rest := []) rfl (Nat.le_of_ble_eq_true rfl) dX3_firstInTrial_34 (fun H locs hd => ?_)
            refine lv_iinc (v := _ + 1) (lv' := [(5, .int _), (0, .ref _), (1, .int _), (2, .int _), (3, .int _), (4, .int _)]) hx hb dX3_firstInTrial_37 hl (k := 5) rfl rfl (by decide) rfl (fun ls hl => ?_)
            refine lv_goto (tgt := 3) hx hb dX3_firstInTrial_40 (by decide) ?_
            exact ih3 _ _ _ _ _ _ _ _ _ (lv_sub hl [1, 2, 3, 4, 5, 0] rfl) hd he
        · replace he := i_f hc3 he
          refine lv_iload hx hb dX3_firstInTrial_20 (lv_at hl 5 rfl) ?_
          exact retIe (cf := (cC G)) C hr hlk hd he dX3_firstInTrial_22
  unfold f_X3_firstInTrial at he
  refine lv_iconst (v := 0) hx hb dX3_firstInTrial_0 (by decide) ?_
  refine lv_istore (lv' := [(5, .int _), (0, .ref _), (1, .int _), (2, .int _), (3, .int _), (4, .int _)]) hx hb dX3_firstInTrial_1 hl (by decide) rfl (fun ls hl => ?_)
  exact L3 200 _ _ _ _ _ _ _ _ _ (lv_sub hl [1, 2, 3, 4, 5, 0] rfl) hd he
set_option maxRecDepth 100000 in
set_option maxHeartbeats 4000000 in
theorem c_X3_firstFromNow (l : Launch) (G : Gd) (ks : Ks) (hJ : Inj 37 G.2.2) {a1 : Int32} {a2 : Int32} {a3 : Int32} {V V' : VV} {r : Int32} (he : f_X3_firstFromNow a1 a2 a3 V = some (r, V')) : MI l 37 G (XC G ks) yX3_firstFromNow cX3_firstFromNow 4 5 112 [.ref (G.2.2 24), .int a1, .int a2, .int a3] (cC G V) (cC G V') r := by
  refine walk_of (own := RX3) (by decide) rfl hJ (xs_C G ks) (Nat.le_of_ble_eq_true rfl) ?_
  intro p e s m below meth c C hr hlk ls hl hd
  have hl : lv_has ls 4 [(0, .ref (G.2.2 24)), (1, .int a1), (2, .int a2), (3, .int a3)] := hl
  obtain ⟨⟨hx, hb, hml, hown, hts⟩, -⟩ := id C
  unfold f_X3_firstFromNow at he
  refine lv_aload_n hx hb dX3_firstFromNow_0 rfl (lv_at hl 0 rfl) ?_
  refine rgetf C hd (by decide) cC24 rfl tgX3 1 (by decide) uw200 rfl dX3_firstFromNow_1 ?_
  refine lv_aload_n hx hb dX3_firstFromNow_4 rfl (lv_at hl 0 rfl) ?_
  refine rgetf C hd (by decide) cC24 rfl tgX3 0 (by decide) uw199 rfl dX3_firstFromNow_5 ?_
  replace he := b_some he
  obtain ⟨V1, h1, he⟩ := he
  refine kVV C hd hl.1 kw_X3_148 (lt_moor (by decide)) (cC_moor (by decide)) rfl (c_X0_takeFrom l G ks hJ (by decide) (by decide) h1) ⟨Nat.le_of_ble_eq_true rfl, Nat.le_of_ble_eq_true rfl⟩ rfl (rest := []) rfl (Nat.le_of_ble_eq_true rfl) dX3_firstFromNow_8 (fun H locs hd => ?_)
  refine lv_aload_n hx hb dX3_firstFromNow_11 rfl (lv_at hl 0 rfl) ?_
  refine lv_iload_n hx hb dX3_firstFromNow_12 rfl (lv_at hl 1 rfl) ?_
  refine lv_iload_n hx hb dX3_firstFromNow_13 rfl (lv_at hl 2 rfl) ?_
  refine lv_iload_n hx hb dX3_firstFromNow_14 rfl (lv_at hl 3 rfl) ?_
  refine lv_bipush (v := 100) hx hb dX3_firstFromNow_15 (by decide) ?_
  replace he := b_some he
  obtain ⟨⟨r2, V2⟩, h2, he⟩ := he
  refine kVI C hd hl.1 kw_X3_231 (by decide) cC24 rfl (c_X3_firstInTrial l G ks hJ h2) ⟨Nat.le_of_ble_eq_true rfl, Nat.le_of_ble_eq_true rfl⟩ rfl (rest := []) rfl (Nat.le_of_ble_eq_true rfl) dX3_firstFromNow_17 (fun H locs hd => ?_)
  exact retIe (cf := (cC G)) C hr hlk hd he dX3_firstFromNow_20
set_option maxRecDepth 100000 in
set_option maxHeartbeats 4000000 in
theorem c_X3_orNone (l : Launch) (G : Gd) (ks : Ks) (hJ : Inj 37 G.2.2) {a1 : Int32} {V V' : VV} {r : Int32} (he : f_X3_orNone a1 V = some (r, V')) : MI l 37 G (XC G ks) yX3_orNone cX3_orNone 2 1 22 [.ref (G.2.2 24), .int a1] (cC G V) (cC G V') r := by
  refine walk_of (own := RX3) (by decide) rfl hJ (xs_C G ks) (Nat.le_of_ble_eq_true rfl) ?_
  intro p e s m below meth c C hr hlk ls hl hd
  have hl : lv_has ls 2 [(0, .ref (G.2.2 24)), (1, .int a1)] := hl
  obtain ⟨⟨hx, hb, hml, hown, hts⟩, -⟩ := id C
  unfold f_X3_orNone at he
  refine lv_iload_n hx hb dX3_orNone_0 rfl (lv_at hl 1 rfl) ?_
  refine lv_if_lt (tgt := 8) hx hb dX3_orNone_1 (by decide) (fun hc1 => ?_) (fun hc1 => ?_)
  · replace he := i_t hc1 he
    refine lv_aload_n hx hb dX3_orNone_8 rfl (lv_at hl 0 rfl) ?_
    refine lv_ldc hx hb hown (hts _ uw436) dX3_orNone_9 ?_
    replace he := b_some he
    obtain ⟨⟨r2, V2⟩, h2, he⟩ := he
    refine kVI C hd hl.1 kw_X3_46 (by decide) cC24 rfl (c_X3_finding l G ks hJ h2) ⟨Nat.le_of_ble_eq_true rfl, Nat.le_of_ble_eq_true rfl⟩ rfl (rest := []) rfl (Nat.le_of_ble_eq_true rfl) dX3_orNone_11 (fun H locs hd => ?_)
    exact retIe (cf := (cC G)) C hr hlk hd he dX3_orNone_14
  · replace he := i_f hc1 he
    refine lv_iload_n hx hb dX3_orNone_4 rfl (lv_at hl 1 rfl) ?_
    refine lv_goto (tgt := 14) hx hb dX3_orNone_5 (by decide) ?_
    exact retIe (cf := (cC G)) C hr hlk hd he dX3_orNone_14
