set_option maxRecDepth 100000 in
set_option maxHeartbeats 4000000 in
theorem c_X4_comesTo (l : Launch) (G : Gd) (hJ : Inj 11 G.2.2) {a1 : Int32} {a2 : Int32} {V V' : VV} (he : f_X4_comesTo a1 a2 V = some V') : MV l 11 G XM yX4_comesTo cX4_comesTo 3 3 64 [.ref (G.2.2 0), .int a1, .int a2] (cM G V) (cM G V') := by
  refine walk_of (own := RX4) (by decide) rfl hJ (xs_M G) (Nat.le_of_ble_eq_true rfl) ?_
  intro p e s m below meth c C hr hlk ls hl hd
  have hl : lv_has ls 3 [(0, .ref (G.2.2 0)), (1, .int a1), (2, .int a2)] := hl
  obtain ⟨⟨hx, hb, hml, hown, hts⟩, -⟩ := id C
  unfold f_X4_comesTo at he
  refine lv_aload_n hx hb dX4_comesTo_0 rfl (lv_at hl 0 rfl) ?_
  refine rgetf C hd (by decide) cM0 rfl tgX4 0 (by decide) tw701 rfl dX4_comesTo_1 ?_
  refine lv_iload_n hx hb dX4_comesTo_4 rfl (lv_at hl 1 rfl) ?_
  refine lv_iconst (v := 1) hx hb dX4_comesTo_5 (by decide) ?_
  replace he := b_some he
  obtain ⟨⟨r1, V1⟩, h1, he⟩ := he
  refine kSI C hd hl.1 kw_X4_54 (c_X4_spotOf l G hJ h1) ⟨Nat.le_of_ble_eq_true rfl, Nat.le_of_ble_eq_true rfl⟩ rfl (rest := [.ref _]) rfl (Nat.le_of_ble_eq_true rfl) dX4_comesTo_6 (fun H locs hd => ?_)
  refine lv_iload_n hx hb dX4_comesTo_9 rfl (lv_at hl 2 rfl) ?_
  replace he := g_some he
  obtain ⟨hi2, he⟩ := he
  replace he := bv_ex he
  obtain ⟨V3, e3, he⟩ := he
  refine riast (cell' := (cM G) V3) C hd (by decide) cMa1 hi2 (cMaw1 e3) (cM_ne e3) dX4_comesTo_10 (fun H locs hd => ?_)
  refine lv_aload_n hx hb dX4_comesTo_11 rfl (lv_at hl 0 rfl) ?_
  refine lv_iload_n hx hb dX4_comesTo_12 rfl (lv_at hl 1 rfl) ?_
  replace he := b_some he
  obtain ⟨⟨r4, V4⟩, h4, he⟩ := he
  refine kVZ C hd hl.1 kw_X4_95 (by decide) cM0 rfl (c_X4_isFree l G hJ h4) ⟨Nat.le_of_ble_eq_true rfl, Nat.le_of_ble_eq_true rfl⟩ rfl (rest := []) rfl (Nat.le_of_ble_eq_true rfl) dX4_comesTo_13 (fun H locs hz4 hd => ?_)
  refine lv_if_ne (tgt := 35) hx hb dX4_comesTo_16 (by decide) (fun hc5 => ?_) (fun hc5 => ?_)
  · replace he := i_f hc5 he
    exact retVe (cf := (cM G)) C hr hlk hd he dX4_comesTo_35
  · replace he := i_t hc5 he
    refine lv_aload_n hx hb dX4_comesTo_19 rfl (lv_at hl 0 rfl) ?_
    refine rgetf C hd (by decide) cM0 rfl tgX4 0 (by decide) tw701 rfl dX4_comesTo_20 ?_
    refine lv_aload_n hx hb dX4_comesTo_23 rfl (lv_at hl 0 rfl) ?_
    refine lv_iload_n hx hb dX4_comesTo_24 rfl (lv_at hl 1 rfl) ?_
    refine lv_iconst (v := 5) hx hb dX4_comesTo_25 (by decide) ?_
    replace he := b_some he
    obtain ⟨⟨r6, V6⟩, h6, he⟩ := he
    refine kVI C hd hl.1 kw_X4_58 (by decide) cM0 rfl (c_X4_its l G hJ h6) ⟨Nat.le_of_ble_eq_true rfl, Nat.le_of_ble_eq_true rfl⟩ rfl (rest := [.ref _]) rfl (Nat.le_of_ble_eq_true rfl) dX4_comesTo_26 (fun H locs hd => ?_)
    refine lv_iconst (v := 1) hx hb dX4_comesTo_29 (by decide) ?_
    replace he := b_some he
    obtain ⟨⟨r7, V7⟩, h7, he⟩ := he
    refine kSI C hd hl.1 kw_X4_54 (c_X4_spotOf l G hJ h7) ⟨Nat.le_of_ble_eq_true rfl, Nat.le_of_ble_eq_true rfl⟩ rfl (rest := [.ref _]) rfl (Nat.le_of_ble_eq_true rfl) dX4_comesTo_30 (fun H locs hd => ?_)
    refine lv_iload_n hx hb dX4_comesTo_33 rfl (lv_at hl 2 rfl) ?_
    replace he := g_some he
    obtain ⟨hi8, he⟩ := he
    replace he := bv_ex he
    obtain ⟨V9, e9, he⟩ := he
    refine riast (cell' := (cM G) V9) C hd (by decide) cMa1 hi8 (cMaw1 e9) (cM_ne e9) dX4_comesTo_34 (fun H locs hd => ?_)
    exact retVe (cf := (cM G)) C hr hlk hd he dX4_comesTo_35
set_option maxRecDepth 100000 in
set_option maxHeartbeats 4000000 in
theorem c_X4_set (l : Launch) (G : Gd) (hJ : Inj 11 G.2.2) {a1 : Int32} {a2 : Int32} {a3 : Int32} {V V' : VV} {r : Int32} (he : f_X4_set a1 a2 a3 V = some (r, V')) : MI l 11 G XM yX4_set cX4_set 5 4 86 [.ref (G.2.2 0), .int a1, .int a2, .int a3] (cM G V) (cM G V') r := by
  refine walk_of (own := RX4) (by decide) rfl hJ (xs_M G) (Nat.le_of_ble_eq_true rfl) ?_
  intro p e s m below meth c C hr hlk ls hl hd
  have hl : lv_has ls 5 [(0, .ref (G.2.2 0)), (1, .int a1), (2, .int a2), (3, .int a3)] := hl
  obtain ⟨⟨hx, hb, hml, hown, hts⟩, -⟩ := id C
  unfold f_X4_set at he
  refine lv_aload_n hx hb dX4_set_0 rfl (lv_at hl 0 rfl) ?_
  refine lv_iload_n hx hb dX4_set_1 rfl (lv_at hl 1 rfl) ?_
  replace he := b_some he
  obtain ⟨⟨r1, V1⟩, h1, he⟩ := he
  refine kVZ C hd hl.1 kw_X4_48 (by decide) cM0 rfl (c_X4_isWalker l G hJ h1) ⟨Nat.le_of_ble_eq_true rfl, Nat.le_of_ble_eq_true rfl⟩ rfl (rest := []) rfl (Nat.le_of_ble_eq_true rfl) dX4_set_2 (fun H locs hz1 hd => ?_)
  refine lv_if_eq (tgt := 16) hx hb dX4_set_5 (by decide) (fun hc2 => ?_) (fun hc2 => ?_)
  · replace he := i_t hc2 he
    refine lv_aload_n hx hb dX4_set_16 rfl (lv_at hl 0 rfl) ?_
    refine lv_ldc hx hb hown (hts _ tw768) dX4_set_17 ?_
    replace he := b_some he
    obtain ⟨⟨r3, V3⟩, h3, he⟩ := he
    refine kVI C hd hl.1 kw_X4_66 (by decide) cM0 rfl (c_X4_finds l G hJ h3) ⟨Nat.le_of_ble_eq_true rfl, Nat.le_of_ble_eq_true rfl⟩ rfl (rest := []) rfl (Nat.le_of_ble_eq_true rfl) dX4_set_19 (fun H locs hd => ?_)
    exact retIe (cf := (cM G)) C hr hlk hd he dX4_set_22
  · replace he := i_f hc2 he
    refine lv_iload_n hx hb dX4_set_8 rfl (lv_at hl 2 rfl) ?_
    refine lv_iload_n hx hb dX4_set_9 rfl (lv_at hl 3 rfl) ?_
    replace he := b_some he
    obtain ⟨⟨r4, V4⟩, h4, he⟩ := he
    refine kSZ C hd hl.1 kw_X4_98 (c_X4_isPart l G hJ h4) ⟨Nat.le_of_ble_eq_true rfl, Nat.le_of_ble_eq_true rfl⟩ rfl (rest := []) rfl (Nat.le_of_ble_eq_true rfl) dX4_set_10 (fun H locs hz4 hd => ?_)
    refine lv_if_ne (tgt := 23) hx hb dX4_set_13 (by decide) (fun hc5 => ?_) (fun hc5 => ?_)
    · replace he := i_f hc5 he
      refine lv_aload_n hx hb dX4_set_23 rfl (lv_at hl 0 rfl) ?_
      refine lv_iload_n hx hb dX4_set_24 rfl (lv_at hl 1 rfl) ?_
      refine lv_iload_n hx hb dX4_set_25 rfl (lv_at hl 2 rfl) ?_
      replace he := b_some he
      obtain ⟨⟨r6, V6⟩, h6, he⟩ := he
      refine kSI C hd hl.1 kw_X4_54 (c_X4_spotOf l G hJ h6) ⟨Nat.le_of_ble_eq_true rfl, Nat.le_of_ble_eq_true rfl⟩ rfl (rest := [.ref _]) rfl (Nat.le_of_ble_eq_true rfl) dX4_set_26 (fun H locs hd => ?_)
      refine lv_iload_n hx hb dX4_set_29 rfl (lv_at hl 3 rfl) ?_
      replace he := b_some he
      obtain ⟨⟨r7, V7⟩, h7, he⟩ := he
      refine kVI C hd hl.1 kw_X4_63 (by decide) cM0 rfl (c_X4_becomes l G hJ h7) ⟨Nat.le_of_ble_eq_true rfl, Nat.le_of_ble_eq_true rfl⟩ rfl (rest := []) rfl (Nat.le_of_ble_eq_true rfl) dX4_set_30 (fun H locs hd => ?_)
      refine lv_istore (lv' := [(4, .int _), (0, .ref _), (1, .int _), (2, .int _), (3, .int _)]) hx hb dX4_set_33 hl (by decide) rfl (fun ls hl => ?_)
      refine lv_iload_n hx hb dX4_set_35 rfl (lv_at hl 3 rfl) ?_
      refine lv_iconst (v := 1) hx hb dX4_set_36 (by decide) ?_
      refine lv_icmp_ne (tgt := 46) hx hb dX4_set_37 (by decide) (fun hc8 => ?_) (fun hc8 => ?_)
      · replace he := i_f hc8 he
        refine lv_iload hx hb dX4_set_46 (lv_at hl 0 rfl) ?_
        exact retIe (cf := (cM G)) C hr hlk hd he dX4_set_48
      · replace he := i_t hc8 he
        refine lv_aload_n hx hb dX4_set_40 rfl (lv_at hl 1 rfl) ?_
        refine lv_iload_n hx hb dX4_set_41 rfl (lv_at hl 2 rfl) ?_
        refine lv_iload_n hx hb dX4_set_42 rfl (lv_at hl 4 rfl) ?_
        replace he := b_some he
        obtain ⟨V9, h9, he⟩ := he
        refine kVV C hd hl.1 kw_X4_102 (by decide) cM0 rfl (c_X4_comesTo l G hJ h9) ⟨Nat.le_of_ble_eq_true rfl, Nat.le_of_ble_eq_true rfl⟩ rfl (rest := []) rfl (Nat.le_of_ble_eq_true rfl) dX4_set_43 (fun H locs hd => ?_)
        refine lv_iload hx hb dX4_set_46 (lv_at hl 0 rfl) ?_
        exact retIe (cf := (cM G)) C hr hlk hd he dX4_set_48
    · replace he := i_t hc5 he
      refine lv_aload_n hx hb dX4_set_16 rfl (lv_at hl 0 rfl) ?_
      refine lv_ldc hx hb hown (hts _ tw768) dX4_set_17 ?_
      replace he := b_some he
      obtain ⟨⟨r10, V10⟩, h10, he⟩ := he
      refine kVI C hd hl.1 kw_X4_66 (by decide) cM0 rfl (c_X4_finds l G hJ h10) ⟨Nat.le_of_ble_eq_true rfl, Nat.le_of_ble_eq_true rfl⟩ rfl (rest := []) rfl (Nat.le_of_ble_eq_true rfl) dX4_set_19 (fun H locs hd => ?_)
      exact retIe (cf := (cM G)) C hr hlk hd he dX4_set_22
set_option maxRecDepth 100000 in
set_option maxHeartbeats 4000000 in
theorem c_X4_turn (l : Launch) (G : Gd) (hJ : Inj 11 G.2.2) {a1 : Int32} {a2 : Int32} {V V' : VV} {r : Int32} (he : f_X4_turn a1 a2 V = some (r, V')) : MI l 11 G XM yX4_turn cX4_turn 3 2 46 [.ref (G.2.2 0), .int a1, .int a2] (cM G V) (cM G V') r := by
  refine walk_of (own := RX4) (by decide) rfl hJ (xs_M G) (Nat.le_of_ble_eq_true rfl) ?_
  intro p e s m below meth c C hr hlk ls hl hd
  have hl : lv_has ls 3 [(0, .ref (G.2.2 0)), (1, .int a1), (2, .int a2)] := hl
  obtain ⟨⟨hx, hb, hml, hown, hts⟩, -⟩ := id C
  unfold f_X4_turn at he
  refine lv_aload_n hx hb dX4_turn_0 rfl (lv_at hl 0 rfl) ?_
  refine lv_iload_n hx hb dX4_turn_1 rfl (lv_at hl 1 rfl) ?_
  replace he := b_some he
  obtain ⟨⟨r1, V1⟩, h1, he⟩ := he
  refine kVZ C hd hl.1 kw_X4_48 (by decide) cM0 rfl (c_X4_isWalker l G hJ h1) ⟨Nat.le_of_ble_eq_true rfl, Nat.le_of_ble_eq_true rfl⟩ rfl (rest := []) rfl (Nat.le_of_ble_eq_true rfl) dX4_turn_2 (fun H locs hz1 hd => ?_)
  refine lv_if_eq (tgt := 28) hx hb dX4_turn_5 (by decide) (fun hc2 => ?_) (fun hc2 => ?_)
  · replace he := i_t hc2 he
    refine lv_aload_n hx hb dX4_turn_28 rfl (lv_at hl 0 rfl) ?_
    refine lv_ldc hx hb hown (hts _ tw768) dX4_turn_29 ?_
    replace he := b_some he
    obtain ⟨⟨r3, V3⟩, h3, he⟩ := he
    refine kVI C hd hl.1 kw_X4_66 (by decide) cM0 rfl (c_X4_finds l G hJ h3) ⟨Nat.le_of_ble_eq_true rfl, Nat.le_of_ble_eq_true rfl⟩ rfl (rest := []) rfl (Nat.le_of_ble_eq_true rfl) dX4_turn_31 (fun H locs hd => ?_)
    exact retIe (cf := (cM G)) C hr hlk hd he dX4_turn_34
  · replace he := i_f hc2 he
    refine lv_iload_n hx hb dX4_turn_8 rfl (lv_at hl 2 rfl) ?_
    replace he := b_some he
    obtain ⟨⟨r4, V4⟩, h4, he⟩ := he
    refine kSZ C hd hl.1 kw_X4_76 (c_X4_isKind l G hJ h4) ⟨Nat.le_of_ble_eq_true rfl, Nat.le_of_ble_eq_true rfl⟩ rfl (rest := []) rfl (Nat.le_of_ble_eq_true rfl) dX4_turn_9 (fun H locs hz4 hd => ?_)
    refine lv_if_eq (tgt := 28) hx hb dX4_turn_12 (by decide) (fun hc5 => ?_) (fun hc5 => ?_)
    · replace he := i_t hc5 he
      refine lv_aload_n hx hb dX4_turn_28 rfl (lv_at hl 0 rfl) ?_
      refine lv_ldc hx hb hown (hts _ tw768) dX4_turn_29 ?_
      replace he := b_some he
      obtain ⟨⟨r6, V6⟩, h6, he⟩ := he
      refine kVI C hd hl.1 kw_X4_66 (by decide) cM0 rfl (c_X4_finds l G hJ h6) ⟨Nat.le_of_ble_eq_true rfl, Nat.le_of_ble_eq_true rfl⟩ rfl (rest := []) rfl (Nat.le_of_ble_eq_true rfl) dX4_turn_31 (fun H locs hd => ?_)
      exact retIe (cf := (cM G)) C hr hlk hd he dX4_turn_34
    · replace he := i_f hc5 he
      refine lv_aload_n hx hb dX4_turn_15 rfl (lv_at hl 0 rfl) ?_
      refine lv_iload_n hx hb dX4_turn_16 rfl (lv_at hl 1 rfl) ?_
      refine lv_iconst (v := 0) hx hb dX4_turn_17 (by decide) ?_
      replace he := b_some he
      obtain ⟨⟨r7, V7⟩, h7, he⟩ := he
      refine kSI C hd hl.1 kw_X4_54 (c_X4_spotOf l G hJ h7) ⟨Nat.le_of_ble_eq_true rfl, Nat.le_of_ble_eq_true rfl⟩ rfl (rest := [.ref _]) rfl (Nat.le_of_ble_eq_true rfl) dX4_turn_18 (fun H locs hd => ?_)
      refine lv_iload_n hx hb dX4_turn_21 rfl (lv_at hl 2 rfl) ?_
      replace he := b_some he
      obtain ⟨⟨r8, V8⟩, h8, he⟩ := he
      refine kVI C hd hl.1 kw_X4_63 (by decide) cM0 rfl (c_X4_becomes l G hJ h8) ⟨Nat.le_of_ble_eq_true rfl, Nat.le_of_ble_eq_true rfl⟩ rfl (rest := []) rfl (Nat.le_of_ble_eq_true rfl) dX4_turn_22 (fun H locs hd => ?_)
      refine lv_goto (tgt := 34) hx hb dX4_turn_25 (by decide) ?_
      exact retIe (cf := (cM G)) C hr hlk hd he dX4_turn_34
set_option maxRecDepth 100000 in
set_option maxHeartbeats 4000000 in
theorem c_X4_isUnder (l : Launch) (G : Gd) (hJ : Inj 11 G.2.2) {a1 : Int32} {a2 : Int32} {V V' : VV} {r : Int32} (he : f_X4_isUnder a1 a2 V = some (r, V')) : MZ l 11 G XM yX4_isUnder cX4_isUnder 2 0 0 [.int a1, .int a2] (cM G V) (cM G V') r := by
  refine walk_of (own := RX4) (by decide) rfl hJ (xs_M G) (Nat.le_of_ble_eq_true rfl) ?_
  intro p e s m below meth c C hr hlk ls hl hd
  have hl : lv_has ls 2 [(0, .int a1), (1, .int a2)] := hl
  obtain ⟨⟨hx, hb, hml, hown, hts⟩, -⟩ := id C
  unfold f_X4_isUnder at he
  refine lv_iload_n hx hb dX4_isUnder_0 rfl (lv_at hl 1 rfl) ?_
  refine lv_if_eq (tgt := 21) hx hb dX4_isUnder_1 (by decide) (fun hc1 => ?_) (fun hc1 => ?_)
  · replace he := i_t hc1 he
    refine lv_iconst (v := 1) hx hb dX4_isUnder_21 (by decide) ?_
    refine lv_goto (tgt := 26) hx hb dX4_isUnder_22 (by decide) ?_
    exact retZe (cf := (cM G)) C hr hlk hd rfl he dX4_isUnder_26
  · replace he := i_f hc1 he
    refine lv_iload_n hx hb dX4_isUnder_4 rfl (lv_at hl 0 rfl) ?_
    refine lv_iload_n hx hb dX4_isUnder_5 rfl (lv_at hl 1 rfl) ?_
    refine lv_icmp_eq (tgt := 21) hx hb dX4_isUnder_6 (by decide) (fun hc2 => ?_) (fun hc2 => ?_)
    · replace he := i_t hc2 he
      refine lv_iconst (v := 1) hx hb dX4_isUnder_21 (by decide) ?_
      refine lv_goto (tgt := 26) hx hb dX4_isUnder_22 (by decide) ?_
      exact retZe (cf := (cM G)) C hr hlk hd rfl he dX4_isUnder_26
    · replace he := i_f hc2 he
      refine lv_iload_n hx hb dX4_isUnder_9 rfl (lv_at hl 0 rfl) ?_
      refine lv_iconst (v := 3) hx hb dX4_isUnder_10 (by decide) ?_
      refine lv_icmp_le (tgt := 25) hx hb dX4_isUnder_11 (by decide) (fun hc3 => ?_) (fun hc3 => ?_)
      · replace he := i_t hc3 he
        refine lv_iconst (v := 0) hx hb dX4_isUnder_25 (by decide) ?_
        exact retZe (cf := (cM G)) C hr hlk hd rfl he dX4_isUnder_26
      · replace he := i_f hc3 he
        refine lv_iload_n hx hb dX4_isUnder_14 rfl (lv_at hl 0 rfl) ?_
        refine lv_iconst (v := 3) hx hb dX4_isUnder_15 (by decide) ?_
        refine lv_isub hx hb dX4_isUnder_16 ?_
        refine lv_iload_n hx hb dX4_isUnder_17 rfl (lv_at hl 1 rfl) ?_
        refine lv_icmp_ne (tgt := 25) hx hb dX4_isUnder_18 (by decide) (fun hc4 => ?_) (fun hc4 => ?_)
        · replace he := i_f hc4 he
          refine lv_iconst (v := 0) hx hb dX4_isUnder_25 (by decide) ?_
          exact retZe (cf := (cM G)) C hr hlk hd rfl he dX4_isUnder_26
        · replace he := i_t hc4 he
          refine lv_iconst (v := 1) hx hb dX4_isUnder_21 (by decide) ?_
          refine lv_goto (tgt := 26) hx hb dX4_isUnder_22 (by decide) ?_
          exact retZe (cf := (cM G)) C hr hlk hd rfl he dX4_isUnder_26
set_option maxRecDepth 100000 in
set_option maxHeartbeats 4000000 in
theorem c_X4_as (l : Launch) (G : Gd) (hJ : Inj 11 G.2.2) {a1 : Int32} {a2 : Int32} {V V' : VV} {r : Int32} (he : f_X4_as a1 a2 V = some (r, V')) : MI l 11 G XM yX4_as cX4_as 3 2 46 [.ref (G.2.2 0), .int a1, .int a2] (cM G V) (cM G V') r := by
  refine walk_of (own := RX4) (by decide) rfl hJ (xs_M G) (Nat.le_of_ble_eq_true rfl) ?_
  intro p e s m below meth c C hr hlk ls hl hd
  have hl : lv_has ls 3 [(0, .ref (G.2.2 0)), (1, .int a1), (2, .int a2)] := hl
  obtain ⟨⟨hx, hb, hml, hown, hts⟩, -⟩ := id C
  unfold f_X4_as at he
  refine lv_aload_n hx hb dX4_as_0 rfl (lv_at hl 0 rfl) ?_
  refine lv_iload_n hx hb dX4_as_1 rfl (lv_at hl 1 rfl) ?_
  replace he := b_some he
  obtain ⟨⟨r1, V1⟩, h1, he⟩ := he
  refine kVZ C hd hl.1 kw_X4_48 (by decide) cM0 rfl (c_X4_isWalker l G hJ h1) ⟨Nat.le_of_ble_eq_true rfl, Nat.le_of_ble_eq_true rfl⟩ rfl (rest := []) rfl (Nat.le_of_ble_eq_true rfl) dX4_as_2 (fun H locs hz1 hd => ?_)
  refine lv_if_eq (tgt := 15) hx hb dX4_as_5 (by decide) (fun hc2 => ?_) (fun hc2 => ?_)
  · replace he := i_t hc2 he
    refine lv_aload_n hx hb dX4_as_15 rfl (lv_at hl 0 rfl) ?_
    refine lv_ldc hx hb hown (hts _ tw768) dX4_as_16 ?_
    replace he := b_some he
    obtain ⟨⟨r3, V3⟩, h3, he⟩ := he
    refine kVI C hd hl.1 kw_X4_66 (by decide) cM0 rfl (c_X4_finds l G hJ h3) ⟨Nat.le_of_ble_eq_true rfl, Nat.le_of_ble_eq_true rfl⟩ rfl (rest := []) rfl (Nat.le_of_ble_eq_true rfl) dX4_as_18 (fun H locs hd => ?_)
    exact retIe (cf := (cM G)) C hr hlk hd he dX4_as_21
  · replace he := i_f hc2 he
    refine lv_iload_n hx hb dX4_as_8 rfl (lv_at hl 2 rfl) ?_
    replace he := b_some he
    obtain ⟨⟨r4, V4⟩, h4, he⟩ := he
    refine kSZ C hd hl.1 kw_X4_76 (c_X4_isKind l G hJ h4) ⟨Nat.le_of_ble_eq_true rfl, Nat.le_of_ble_eq_true rfl⟩ rfl (rest := []) rfl (Nat.le_of_ble_eq_true rfl) dX4_as_9 (fun H locs hz4 hd => ?_)
    refine lv_if_ne (tgt := 22) hx hb dX4_as_12 (by decide) (fun hc5 => ?_) (fun hc5 => ?_)
    · replace he := i_f hc5 he
      refine lv_aload_n hx hb dX4_as_22 rfl (lv_at hl 0 rfl) ?_
      refine lv_iload_n hx hb dX4_as_23 rfl (lv_at hl 1 rfl) ?_
      refine lv_iconst (v := 0) hx hb dX4_as_24 (by decide) ?_
      replace he := b_some he
      obtain ⟨⟨r6, V6⟩, h6, he⟩ := he
      refine kVI C hd hl.1 kw_X4_58 (by decide) cM0 rfl (c_X4_its l G hJ h6) ⟨Nat.le_of_ble_eq_true rfl, Nat.le_of_ble_eq_true rfl⟩ rfl (rest := []) rfl (Nat.le_of_ble_eq_true rfl) dX4_as_25 (fun H locs hd => ?_)
      refine lv_iload_n hx hb dX4_as_28 rfl (lv_at hl 2 rfl) ?_
      replace he := b_some he
      obtain ⟨⟨r7, V7⟩, h7, he⟩ := he
      refine kSZ C hd hl.1 kw_X4_106 (c_X4_isUnder l G hJ h7) ⟨Nat.le_of_ble_eq_true rfl, Nat.le_of_ble_eq_true rfl⟩ rfl (rest := []) rfl (Nat.le_of_ble_eq_true rfl) dX4_as_29 (fun H locs hz7 hd => ?_)
      refine lv_if_eq (tgt := 44) hx hb dX4_as_32 (by decide) (fun hc8 => ?_) (fun hc8 => ?_)
      · replace he := i_t hc8 he
        refine lv_aload_n hx hb dX4_as_44 rfl (lv_at hl 0 rfl) ?_
        refine lv_ldc hx hb hown (hts _ tw854) dX4_as_45 ?_
        replace he := b_some he
        obtain ⟨⟨r9, V9⟩, h9, he⟩ := he
        refine kVI C hd hl.1 kw_X4_66 (by decide) cM0 rfl (c_X4_finds l G hJ h9) ⟨Nat.le_of_ble_eq_true rfl, Nat.le_of_ble_eq_true rfl⟩ rfl (rest := []) rfl (Nat.le_of_ble_eq_true rfl) dX4_as_47 (fun H locs hd => ?_)
        exact retIe (cf := (cM G)) C hr hlk hd he dX4_as_50
      · replace he := i_f hc8 he
        refine lv_aload_n hx hb dX4_as_35 rfl (lv_at hl 0 rfl) ?_
        refine lv_iload_n hx hb dX4_as_36 rfl (lv_at hl 1 rfl) ?_
        refine lv_iconst (v := 4) hx hb dX4_as_37 (by decide) ?_
        replace he := b_some he
        obtain ⟨⟨r10, V10⟩, h10, he⟩ := he
        refine kVI C hd hl.1 kw_X4_58 (by decide) cM0 rfl (c_X4_its l G hJ h10) ⟨Nat.le_of_ble_eq_true rfl, Nat.le_of_ble_eq_true rfl⟩ rfl (rest := []) rfl (Nat.le_of_ble_eq_true rfl) dX4_as_38 (fun H locs hd => ?_)
        refine lv_goto (tgt := 50) hx hb dX4_as_41 (by decide) ?_
        exact retIe (cf := (cM G)) C hr hlk hd he dX4_as_50
    · replace he := i_t hc5 he
      refine lv_aload_n hx hb dX4_as_15 rfl (lv_at hl 0 rfl) ?_
      refine lv_ldc hx hb hown (hts _ tw768) dX4_as_16 ?_
      replace he := b_some he
      obtain ⟨⟨r11, V11⟩, h11, he⟩ := he
      refine kVI C hd hl.1 kw_X4_66 (by decide) cM0 rfl (c_X4_finds l G hJ h11) ⟨Nat.le_of_ble_eq_true rfl, Nat.le_of_ble_eq_true rfl⟩ rfl (rest := []) rfl (Nat.le_of_ble_eq_true rfl) dX4_as_18 (fun H locs hd => ?_)
      exact retIe (cf := (cM G)) C hr hlk hd he dX4_as_21
set_option maxRecDepth 100000 in
set_option maxHeartbeats 4000000 in
theorem c_X4_isFreed (l : Launch) (G : Gd) (hJ : Inj 11 G.2.2) {a1 : Int32} {V V' : VV} (he : f_X4_isFreed a1 V = some V') : MV l 11 G XM yX4_isFreed cX4_isFreed 2 1 21 [.ref (G.2.2 0), .int a1] (cM G V) (cM G V') := by
  refine walk_of (own := RX4) (by decide) rfl hJ (xs_M G) (Nat.le_of_ble_eq_true rfl) ?_
  intro p e s m below meth c C hr hlk ls hl hd
  have hl : lv_has ls 2 [(0, .ref (G.2.2 0)), (1, .int a1)] := hl
  obtain ⟨⟨hx, hb, hml, hown, hts⟩, -⟩ := id C
  unfold f_X4_isFreed at he
  refine lv_aload_n hx hb dX4_isFreed_0 rfl (lv_at hl 0 rfl) ?_
  refine rgetf C hd (by decide) cM0 rfl tgX4 0 (by decide) tw701 rfl dX4_isFreed_1 ?_
  refine lv_iload_n hx hb dX4_isFreed_4 rfl (lv_at hl 1 rfl) ?_
  refine lv_iconst (v := 5) hx hb dX4_isFreed_5 (by decide) ?_
  replace he := b_some he
  obtain ⟨⟨r1, V1⟩, h1, he⟩ := he
  refine kSI C hd hl.1 kw_X4_54 (c_X4_spotOf l G hJ h1) ⟨Nat.le_of_ble_eq_true rfl, Nat.le_of_ble_eq_true rfl⟩ rfl (rest := [.ref _]) rfl (Nat.le_of_ble_eq_true rfl) dX4_isFreed_6 (fun H locs hd => ?_)
  refine lv_iconst (v := (-1)) hx hb dX4_isFreed_9 (by decide) ?_
  replace he := g_some he
  obtain ⟨hi2, he⟩ := he
  replace he := bv_ex he
  obtain ⟨V3, e3, he⟩ := he
  refine riast (cell' := (cM G) V3) C hd (by decide) cMa1 hi2 (cMaw1 e3) (cM_ne e3) dX4_isFreed_10 (fun H locs hd => ?_)
  refine lv_aload_n hx hb dX4_isFreed_11 rfl (lv_at hl 0 rfl) ?_
  refine rgetf C hd (by decide) cM0 rfl tgX4 0 (by decide) tw701 rfl dX4_isFreed_12 ?_
  refine lv_iload_n hx hb dX4_isFreed_15 rfl (lv_at hl 1 rfl) ?_
  refine lv_bipush (v := 6) hx hb dX4_isFreed_16 (by decide) ?_
  replace he := b_some he
  obtain ⟨⟨r4, V4⟩, h4, he⟩ := he
  refine kSI C hd hl.1 kw_X4_54 (c_X4_spotOf l G hJ h4) ⟨Nat.le_of_ble_eq_true rfl, Nat.le_of_ble_eq_true rfl⟩ rfl (rest := [.ref _]) rfl (Nat.le_of_ble_eq_true rfl) dX4_isFreed_18 (fun H locs hd => ?_)
  refine lv_iconst (v := (-1)) hx hb dX4_isFreed_21 (by decide) ?_
  replace he := g_some he
  obtain ⟨hi5, he⟩ := he
  replace he := bv_ex he
  obtain ⟨V6, e6, he⟩ := he
  refine riast (cell' := (cM G) V6) C hd (by decide) cMa1 hi5 (cMaw1 e6) (cM_ne e6) dX4_isFreed_22 (fun H locs hd => ?_)
  exact retVe (cf := (cM G)) C hr hlk hd he dX4_isFreed_23
set_option maxRecDepth 100000 in
set_option maxHeartbeats 4000000 in
theorem c_X4_lets (l : Launch) (G : Gd) (hJ : Inj 11 G.2.2) {a1 : Int32} {V V' : VV} {r : Int32} (he : f_X4_lets a1 V = some (r, V')) : MI l 11 G XM yX4_lets cX4_lets 3 2 43 [.ref (G.2.2 0), .int a1] (cM G V) (cM G V') r := by
  refine walk_of (own := RX4) (by decide) rfl hJ (xs_M G) (Nat.le_of_ble_eq_true rfl) ?_
  intro p e s m below meth c C hr hlk ls hl hd
  have hl : lv_has ls 3 [(0, .ref (G.2.2 0)), (1, .int a1)] := hl
  obtain ⟨⟨hx, hb, hml, hown, hts⟩, -⟩ := id C
  unfold f_X4_lets at he
  refine lv_aload_n hx hb dX4_lets_0 rfl (lv_at hl 0 rfl) ?_
  refine lv_iload_n hx hb dX4_lets_1 rfl (lv_at hl 1 rfl) ?_
  refine lv_iconst (v := 5) hx hb dX4_lets_2 (by decide) ?_
  replace he := b_some he
  obtain ⟨⟨r1, V1⟩, h1, he⟩ := he
  refine kVI C hd hl.1 kw_X4_58 (by decide) cM0 rfl (c_X4_its l G hJ h1) ⟨Nat.le_of_ble_eq_true rfl, Nat.le_of_ble_eq_true rfl⟩ rfl (rest := []) rfl (Nat.le_of_ble_eq_true rfl) dX4_lets_3 (fun H locs hd => ?_)
  refine lv_istore_n (lv' := [(2, .int _), (0, .ref _), (1, .int _)]) hx hb dX4_lets_6 rfl hl (by decide) rfl (fun ls hl => ?_)
  refine lv_aload_n hx hb dX4_lets_7 rfl (lv_at hl 1 rfl) ?_
  refine lv_iload_n hx hb dX4_lets_8 rfl (lv_at hl 0 rfl) ?_
  replace he := b_some he
  obtain ⟨V2, h2, he⟩ := he
  refine kVV C hd hl.1 kw_X4_110 (by decide) cM0 rfl (c_X4_isFreed l G hJ h2) ⟨Nat.le_of_ble_eq_true rfl, Nat.le_of_ble_eq_true rfl⟩ rfl (rest := []) rfl (Nat.le_of_ble_eq_true rfl) dX4_lets_9 (fun H locs hd => ?_)
  refine lv_aload_n hx hb dX4_lets_12 rfl (lv_at hl 1 rfl) ?_
  refine lv_iload_n hx hb dX4_lets_13 rfl (lv_at hl 2 rfl) ?_
  replace he := b_some he
  obtain ⟨V3, h3, he⟩ := he
  refine kVV C hd hl.1 kw_X4_110 (by decide) cM0 rfl (c_X4_isFreed l G hJ h3) ⟨Nat.le_of_ble_eq_true rfl, Nat.le_of_ble_eq_true rfl⟩ rfl (rest := []) rfl (Nat.le_of_ble_eq_true rfl) dX4_lets_14 (fun H locs hd => ?_)
  refine lv_iload_n hx hb dX4_lets_17 rfl (lv_at hl 0 rfl) ?_
  exact retIe (cf := (cM G)) C hr hlk hd he dX4_lets_18
set_option maxRecDepth 100000 in
set_option maxHeartbeats 4000000 in
theorem c_X4_free (l : Launch) (G : Gd) (hJ : Inj 11 G.2.2) {a1 : Int32} {V V' : VV} {r : Int32} (he : f_X4_free a1 V = some (r, V')) : MI l 11 G XM yX4_free cX4_free 2 3 65 [.ref (G.2.2 0), .int a1] (cM G V) (cM G V') r := by
  refine walk_of (own := RX4) (by decide) rfl hJ (xs_M G) (Nat.le_of_ble_eq_true rfl) ?_
  intro p e s m below meth c C hr hlk ls hl hd
  have hl : lv_has ls 2 [(0, .ref (G.2.2 0)), (1, .int a1)] := hl
  obtain ⟨⟨hx, hb, hml, hown, hts⟩, -⟩ := id C
  unfold f_X4_free at he
  refine lv_aload_n hx hb dX4_free_0 rfl (lv_at hl 0 rfl) ?_
  refine lv_iload_n hx hb dX4_free_1 rfl (lv_at hl 1 rfl) ?_
  replace he := b_some he
  obtain ⟨⟨r1, V1⟩, h1, he⟩ := he
  refine kVZ C hd hl.1 kw_X4_48 (by decide) cM0 rfl (c_X4_isWalker l G hJ h1) ⟨Nat.le_of_ble_eq_true rfl, Nat.le_of_ble_eq_true rfl⟩ rfl (rest := []) rfl (Nat.le_of_ble_eq_true rfl) dX4_free_2 (fun H locs hz1 hd => ?_)
  refine lv_if_ne (tgt := 15) hx hb dX4_free_5 (by decide) (fun hc2 => ?_) (fun hc2 => ?_)
  · replace he := i_f hc2 he
    refine lv_aload_n hx hb dX4_free_15 rfl (lv_at hl 0 rfl) ?_
    refine lv_iload_n hx hb dX4_free_16 rfl (lv_at hl 1 rfl) ?_
    replace he := b_some he
    obtain ⟨⟨r3, V3⟩, h3, he⟩ := he
    refine kVZ C hd hl.1 kw_X4_95 (by decide) cM0 rfl (c_X4_isFree l G hJ h3) ⟨Nat.le_of_ble_eq_true rfl, Nat.le_of_ble_eq_true rfl⟩ rfl (rest := []) rfl (Nat.le_of_ble_eq_true rfl) dX4_free_17 (fun H locs hz3 hd => ?_)
    refine lv_if_eq (tgt := 32) hx hb dX4_free_20 (by decide) (fun hc4 => ?_) (fun hc4 => ?_)
    · replace he := i_t hc4 he
      refine lv_aload_n hx hb dX4_free_32 rfl (lv_at hl 0 rfl) ?_
      refine lv_iload_n hx hb dX4_free_33 rfl (lv_at hl 1 rfl) ?_
      replace he := b_some he
      obtain ⟨⟨r5, V5⟩, h5, he⟩ := he
      refine kVI C hd hl.1 kw_X4_115 (by decide) cM0 rfl (c_X4_lets l G hJ h5) ⟨Nat.le_of_ble_eq_true rfl, Nat.le_of_ble_eq_true rfl⟩ rfl (rest := []) rfl (Nat.le_of_ble_eq_true rfl) dX4_free_34 (fun H locs hd => ?_)
      exact retIe (cf := (cM G)) C hr hlk hd he dX4_free_37
    · replace he := i_f hc4 he
      refine lv_aload_n hx hb dX4_free_23 rfl (lv_at hl 0 rfl) ?_
      refine lv_ldc hx hb hown (hts _ tw859) dX4_free_24 ?_
      replace he := b_some he
      obtain ⟨⟨r6, V6⟩, h6, he⟩ := he
      refine kVI C hd hl.1 kw_X4_66 (by decide) cM0 rfl (c_X4_finds l G hJ h6) ⟨Nat.le_of_ble_eq_true rfl, Nat.le_of_ble_eq_true rfl⟩ rfl (rest := []) rfl (Nat.le_of_ble_eq_true rfl) dX4_free_26 (fun H locs hd => ?_)
      refine lv_goto (tgt := 37) hx hb dX4_free_29 (by decide) ?_
      exact retIe (cf := (cM G)) C hr hlk hd he dX4_free_37
  · replace he := i_t hc2 he
    refine lv_aload_n hx hb dX4_free_8 rfl (lv_at hl 0 rfl) ?_
    refine lv_ldc hx hb hown (hts _ tw768) dX4_free_9 ?_
    replace he := b_some he
    obtain ⟨⟨r7, V7⟩, h7, he⟩ := he
    refine kVI C hd hl.1 kw_X4_66 (by decide) cM0 rfl (c_X4_finds l G hJ h7) ⟨Nat.le_of_ble_eq_true rfl, Nat.le_of_ble_eq_true rfl⟩ rfl (rest := []) rfl (Nat.le_of_ble_eq_true rfl) dX4_free_11 (fun H locs hd => ?_)
    exact retIe (cf := (cM G)) C hr hlk hd he dX4_free_14
set_option maxRecDepth 100000 in
set_option maxHeartbeats 4000000 in
theorem c_X4_keeps (l : Launch) (G : Gd) (hJ : Inj 11 G.2.2) {a1 : Int32} {a2 : Int32} {V V' : VV} (he : f_X4_keeps a1 a2 V = some V') : MV l 11 G XM yX4_keeps cX4_keeps 3 2 43 [.ref (G.2.2 0), .int a1, .int a2] (cM G V) (cM G V') := by
  refine walk_of (own := RX4) (by decide) rfl hJ (xs_M G) (Nat.le_of_ble_eq_true rfl) ?_
  intro p e s m below meth c C hr hlk ls hl hd
  have hl : lv_has ls 3 [(0, .ref (G.2.2 0)), (1, .int a1), (2, .int a2)] := hl
  obtain ⟨⟨hx, hb, hml, hown, hts⟩, -⟩ := id C
  unfold f_X4_keeps at he
  refine lv_aload_n hx hb dX4_keeps_0 rfl (lv_at hl 0 rfl) ?_
  refine rgetf C hd (by decide) cM0 rfl tgX4 0 (by decide) tw701 rfl dX4_keeps_1 ?_
  refine lv_iload_n hx hb dX4_keeps_4 rfl (lv_at hl 1 rfl) ?_
  refine lv_iconst (v := 5) hx hb dX4_keeps_5 (by decide) ?_
  replace he := b_some he
  obtain ⟨⟨r1, V1⟩, h1, he⟩ := he
  refine kSI C hd hl.1 kw_X4_54 (c_X4_spotOf l G hJ h1) ⟨Nat.le_of_ble_eq_true rfl, Nat.le_of_ble_eq_true rfl⟩ rfl (rest := [.ref _]) rfl (Nat.le_of_ble_eq_true rfl) dX4_keeps_6 (fun H locs hd => ?_)
  refine lv_iload_n hx hb dX4_keeps_9 rfl (lv_at hl 2 rfl) ?_
  replace he := g_some he
  obtain ⟨hi2, he⟩ := he
  replace he := bv_ex he
  obtain ⟨V3, e3, he⟩ := he
  refine riast (cell' := (cM G) V3) C hd (by decide) cMa1 hi2 (cMaw1 e3) (cM_ne e3) dX4_keeps_10 (fun H locs hd => ?_)
  refine lv_aload_n hx hb dX4_keeps_11 rfl (lv_at hl 0 rfl) ?_
  refine rgetf C hd (by decide) cM0 rfl tgX4 0 (by decide) tw701 rfl dX4_keeps_12 ?_
  refine lv_iload_n hx hb dX4_keeps_15 rfl (lv_at hl 2 rfl) ?_
  refine lv_iconst (v := 5) hx hb dX4_keeps_16 (by decide) ?_
  replace he := b_some he
  obtain ⟨⟨r4, V4⟩, h4, he⟩ := he
  refine kSI C hd hl.1 kw_X4_54 (c_X4_spotOf l G hJ h4) ⟨Nat.le_of_ble_eq_true rfl, Nat.le_of_ble_eq_true rfl⟩ rfl (rest := [.ref _]) rfl (Nat.le_of_ble_eq_true rfl) dX4_keeps_17 (fun H locs hd => ?_)
  refine lv_iload_n hx hb dX4_keeps_20 rfl (lv_at hl 1 rfl) ?_
  replace he := g_some he
  obtain ⟨hi5, he⟩ := he
  replace he := bv_ex he
  obtain ⟨V6, e6, he⟩ := he
  refine riast (cell' := (cM G) V6) C hd (by decide) cMa1 hi5 (cMaw1 e6) (cM_ne e6) dX4_keeps_21 (fun H locs hd => ?_)
  refine lv_aload_n hx hb dX4_keeps_22 rfl (lv_at hl 0 rfl) ?_
  refine rgetf C hd (by decide) cM0 rfl tgX4 0 (by decide) tw701 rfl dX4_keeps_23 ?_
  refine lv_iload_n hx hb dX4_keeps_26 rfl (lv_at hl 1 rfl) ?_
  refine lv_bipush (v := 6) hx hb dX4_keeps_27 (by decide) ?_
  replace he := b_some he
  obtain ⟨⟨r7, V7⟩, h7, he⟩ := he
  refine kSI C hd hl.1 kw_X4_54 (c_X4_spotOf l G hJ h7) ⟨Nat.le_of_ble_eq_true rfl, Nat.le_of_ble_eq_true rfl⟩ rfl (rest := [.ref _]) rfl (Nat.le_of_ble_eq_true rfl) dX4_keeps_29 (fun H locs hd => ?_)
  refine lv_aload_n hx hb dX4_keeps_32 rfl (lv_at hl 0 rfl) ?_
  refine lv_iload_n hx hb dX4_keeps_33 rfl (lv_at hl 2 rfl) ?_
  refine lv_iconst (v := 4) hx hb dX4_keeps_34 (by decide) ?_
  replace he := b_some he
  obtain ⟨⟨r8, V8⟩, h8, he⟩ := he
  refine kVI C hd hl.1 kw_X4_58 (by decide) cM0 rfl (c_X4_its l G hJ h8) ⟨Nat.le_of_ble_eq_true rfl, Nat.le_of_ble_eq_true rfl⟩ rfl (rest := [.int _, .ref _]) rfl (Nat.le_of_ble_eq_true rfl) dX4_keeps_35 (fun H locs hd => ?_)
  replace he := g_some he
  obtain ⟨hi9, he⟩ := he
  replace he := bv_ex he
  obtain ⟨V10, e10, he⟩ := he
  refine riast (cell' := (cM G) V10) C hd (by decide) cMa1 hi9 (cMaw1 e10) (cM_ne e10) dX4_keeps_38 (fun H locs hd => ?_)
  refine lv_aload_n hx hb dX4_keeps_39 rfl (lv_at hl 0 rfl) ?_
  refine rgetf C hd (by decide) cM0 rfl tgX4 0 (by decide) tw701 rfl dX4_keeps_40 ?_
  refine lv_iload_n hx hb dX4_keeps_43 rfl (lv_at hl 2 rfl) ?_
  refine lv_bipush (v := 6) hx hb dX4_keeps_44 (by decide) ?_
  replace he := b_some he
  obtain ⟨⟨r11, V11⟩, h11, he⟩ := he
  refine kSI C hd hl.1 kw_X4_54 (c_X4_spotOf l G hJ h11) ⟨Nat.le_of_ble_eq_true rfl, Nat.le_of_ble_eq_true rfl⟩ rfl (rest := [.ref _]) rfl (Nat.le_of_ble_eq_true rfl) dX4_keeps_46 (fun H locs hd => ?_)
  refine lv_aload_n hx hb dX4_keeps_49 rfl (lv_at hl 0 rfl) ?_
  refine lv_iload_n hx hb dX4_keeps_50 rfl (lv_at hl 1 rfl) ?_
  refine lv_iconst (v := 4) hx hb dX4_keeps_51 (by decide) ?_
  replace he := b_some he
  obtain ⟨⟨r12, V12⟩, h12, he⟩ := he
  refine kVI C hd hl.1 kw_X4_58 (by decide) cM0 rfl (c_X4_its l G hJ h12) ⟨Nat.le_of_ble_eq_true rfl, Nat.le_of_ble_eq_true rfl⟩ rfl (rest := [.int _, .ref _]) rfl (Nat.le_of_ble_eq_true rfl) dX4_keeps_52 (fun H locs hd => ?_)
  replace he := g_some he
  obtain ⟨hi13, he⟩ := he
  replace he := bv_ex he
  obtain ⟨V14, e14, he⟩ := he
  refine riast (cell' := (cM G) V14) C hd (by decide) cMa1 hi13 (cMaw1 e14) (cM_ne e14) dX4_keeps_55 (fun H locs hd => ?_)
  exact retVe (cf := (cM G)) C hr hlk hd he dX4_keeps_56
set_option maxRecDepth 100000 in
set_option maxHeartbeats 4000000 in
theorem c_X4_ones (l : Launch) (G : Gd) (hJ : Inj 11 G.2.2) {a1 : Int32} {V V' : VV} {r : Int32} (he : f_X4_ones a1 V = some (r, V')) : MI l 11 G XM yX4_ones cX4_ones 3 0 0 [.int a1] (cM G V) (cM G V') r := by
  refine walk_of (own := RX4) (by decide) rfl hJ (xs_M G) (Nat.le_of_ble_eq_true rfl) ?_
  intro p e s m below meth c C hr hlk ls hl hd
  have hl : lv_has ls 3 [(0, .int a1)] := hl
  obtain ⟨⟨hx, hb, hml, hown, hts⟩, -⟩ := id C
  have L4 : ∀ (fuel : Nat) (x1 : Int32) (x2 : Int32) (V : VV) (H : Heap) (locs : List Loc) (ls : Array Slot), lv_has ls 3 [(1, .int x1), (2, .int x2)] → Dy 11 G (cM G V) s H locs → f_X4_ones_L4 fuel x1 x2 V = some (r, V') → W p l e (rmF 0 0) s m ([.int a1] : List Value).toArray below meth c H locs 0 0 (MQ below (QI 11 G (cM G V') (fun r' => r' = r)) ([.int a1] : List Value).toArray s 0 0 (inA 11 G.2.2)) (F0 m 4 ls []) := by
    intro fuel
    induction fuel with
    | zero => intro x1 x2 V H locs ls hl hd he; simp [f_X4_ones_L4] at he
    | succ n ih4 =>
      intro x1 x2 V H locs ls hl hd he
      rw [f_X4_ones_L4] at he
      refine lv_iload_n hx hb dX4_ones_4 rfl (lv_at hl 1 rfl) ?_
      refine lv_if_eq (tgt := 20) hx hb dX4_ones_5 (by decide) (fun hc1 => ?_) (fun hc1 => ?_)
      · replace he := i_t hc1 he
        refine lv_iload_n hx hb dX4_ones_20 rfl (lv_at hl 0 rfl) ?_
        exact retIe (cf := (cM G)) C hr hlk hd he dX4_ones_21
      · replace he := i_f hc1 he
        refine lv_iinc (v := _ + 1) (lv' := [(1, .int _), (2, .int _)]) hx hb dX4_ones_8 hl (k := 0) rfl rfl (by decide) rfl (fun ls hl => ?_)
        refine lv_iload_n hx hb dX4_ones_11 rfl (lv_at hl 1 rfl) ?_
        refine lv_iload_n hx hb dX4_ones_12 rfl (lv_at hl 1 rfl) ?_
        refine lv_iconst (v := 1) hx hb dX4_ones_13 (by decide) ?_
        refine lv_isub hx hb dX4_ones_14 ?_
        refine lv_iand hx hb dX4_ones_15 ?_
        refine lv_istore_n (lv' := [(2, .int _), (1, .int _)]) hx hb dX4_ones_16 rfl hl (by decide) rfl (fun ls hl => ?_)
        refine lv_goto (tgt := 4) hx hb dX4_ones_17 (by decide) ?_
        exact ih4 _ _ _ _ _ _ (lv_sub hl [1, 0] rfl) hd he
  unfold f_X4_ones at he
  refine lv_iconst (v := 0) hx hb dX4_ones_0 (by decide) ?_
  refine lv_istore_n (lv' := [(1, .int _), (0, .int _)]) hx hb dX4_ones_1 rfl hl (by decide) rfl (fun ls hl => ?_)
  refine lv_iload_n hx hb dX4_ones_2 rfl (lv_at hl 1 rfl) ?_
  refine lv_istore_n (lv' := [(2, .int _), (1, .int _), (0, .int _)]) hx hb dX4_ones_3 rfl hl (by decide) rfl (fun ls hl => ?_)
  exact L4 200 _ _ _ _ _ _ (lv_sub hl [1, 0] rfl) hd he
set_option maxRecDepth 100000 in
set_option maxHeartbeats 4000000 in
theorem c_X4_thoseKept (l : Launch) (G : Gd) (hJ : Inj 11 G.2.2) {V V' : VV} {r : Int32} (he : f_X4_thoseKept V = some (r, V')) : MI l 11 G XM yX4_thoseKept cX4_thoseKept 3 3 64 [.ref (G.2.2 0)] (cM G V) (cM G V') r := by
  refine walk_of (own := RX4) (by decide) rfl hJ (xs_M G) (Nat.le_of_ble_eq_true rfl) ?_
  intro p e s m below meth c C hr hlk ls hl hd
  have hl : lv_has ls 3 [(0, .ref (G.2.2 0))] := hl
  obtain ⟨⟨hx, hb, hml, hown, hts⟩, -⟩ := id C
  have L4 : ∀ (fuel : Nat) (x1 : Int32) (x2 : Int32) (V : VV) (H : Heap) (locs : List Loc) (ls : Array Slot), lv_has ls 3 [(0, .ref (G.2.2 0)), (1, .int x1), (2, .int x2)] → Dy 11 G (cM G V) s H locs → f_X4_thoseKept_L4 fuel x1 x2 V = some (r, V') → W p l e (rmF 3 64) s m ([.ref (G.2.2 0)] : List Value).toArray below meth c H locs 0 0 (MQ below (QI 11 G (cM G V') (fun r' => r' = r)) ([.ref (G.2.2 0)] : List Value).toArray s 0 0 (inA 11 G.2.2)) (F0 m 4 ls []) := by
    intro fuel
    induction fuel with
    | zero => intro x1 x2 V H locs ls hl hd he; simp [f_X4_thoseKept_L4] at he
    | succ n ih4 =>
      intro x1 x2 V H locs ls hl hd he
      rw [f_X4_thoseKept_L4] at he
      refine lv_iload_n hx hb dX4_thoseKept_4 rfl (lv_at hl 2 rfl) ?_
      refine lv_aload_n hx hb dX4_thoseKept_5 rfl (lv_at hl 0 rfl) ?_
      refine rgetf C hd (by decide) cM0 rfl tgX4 0 (by decide) tw701 rfl dX4_thoseKept_6 ?_
      refine lv_iconst (v := 0) hx hb dX4_thoseKept_9 (by decide) ?_
      replace he := g_some he
      obtain ⟨hi1, he⟩ := he
      refine riald C hd (by decide) cMa1 hi1 dX4_thoseKept_10 ?_
      refine lv_icmp_ge (tgt := 38) hx hb dX4_thoseKept_11 (by decide) (fun hc2 => ?_) (fun hc2 => ?_)
      · replace he := i_t hc2 he
        refine lv_iload_n hx hb dX4_thoseKept_38 rfl (lv_at hl 1 rfl) ?_
        exact retIe (cf := (cM G)) C hr hlk hd he dX4_thoseKept_39
      · replace he := i_f hc2 he
        refine lv_iload_n hx hb dX4_thoseKept_14 rfl (lv_at hl 1 rfl) ?_
        refine lv_aload_n hx hb dX4_thoseKept_15 rfl (lv_at hl 0 rfl) ?_
        refine lv_iload_n hx hb dX4_thoseKept_16 rfl (lv_at hl 2 rfl) ?_
        replace he := b_some he
        obtain ⟨⟨r3, V3⟩, h3, he⟩ := he
        refine kVZ C hd hl.1 kw_X4_95 (by decide) cM0 rfl (c_X4_isFree l G hJ h3) ⟨Nat.le_of_ble_eq_true rfl, Nat.le_of_ble_eq_true rfl⟩ rfl (rest := [.int _]) rfl (Nat.le_of_ble_eq_true rfl) dX4_thoseKept_17 (fun H locs hz3 hd => ?_)
        refine lv_if_eq (tgt := 27) hx hb dX4_thoseKept_20 (by decide) (fun hc4 => ?_) (fun hc4 => ?_)
        · replace he := i_t hc4 he
          refine lv_iconst (v := 1) hx hb dX4_thoseKept_27 (by decide) ?_
          refine lv_iload_n hx hb dX4_thoseKept_28 rfl (lv_at hl 2 rfl) ?_
          refine lv_ishl hx hb dX4_thoseKept_29 ?_
          refine lv_ior hx hb dX4_thoseKept_30 ?_
          refine lv_istore_n (lv' := [(1, .int _), (0, .ref _), (2, .int _)]) hx hb dX4_thoseKept_31 rfl hl (by decide) rfl (fun ls hl => ?_)
          refine lv_iinc (v := _ + 1) (lv' := [(2, .int _), (1, .int _), (0, .ref _)]) hx hb dX4_thoseKept_32 hl (k := 2) rfl rfl (by decide) rfl (fun ls hl => ?_)
          refine lv_goto (tgt := 4) hx hb dX4_thoseKept_35 (by decide) ?_
          exact ih4 _ _ _ _ _ _ (lv_sub hl [2, 1, 0] rfl) hd he
        · replace he := i_f hc4 he
          refine lv_iconst (v := 0) hx hb dX4_thoseKept_23 (by decide) ?_
          refine lv_goto (tgt := 30) hx hb dX4_thoseKept_24 (by decide) ?_
          refine lv_ior hx hb dX4_thoseKept_30 ?_
          refine lv_istore_n (lv' := [(1, .int _), (0, .ref _), (2, .int _)]) hx hb dX4_thoseKept_31 rfl hl (by decide) rfl (fun ls hl => ?_)
          refine lv_iinc (v := _ + 1) (lv' := [(2, .int _), (1, .int _), (0, .ref _)]) hx hb dX4_thoseKept_32 hl (k := 2) rfl rfl (by decide) rfl (fun ls hl => ?_)
          refine lv_goto (tgt := 4) hx hb dX4_thoseKept_35 (by decide) ?_
          exact ih4 _ _ _ _ _ _ (lv_sub hl [2, 1, 0] rfl) hd he
  unfold f_X4_thoseKept at he
  refine lv_iconst (v := 0) hx hb dX4_thoseKept_0 (by decide) ?_
  refine lv_istore_n (lv' := [(1, .int _), (0, .ref _)]) hx hb dX4_thoseKept_1 rfl hl (by decide) rfl (fun ls hl => ?_)
  refine lv_iconst (v := 0) hx hb dX4_thoseKept_2 (by decide) ?_
  refine lv_istore_n (lv' := [(2, .int _), (1, .int _), (0, .ref _)]) hx hb dX4_thoseKept_3 rfl hl (by decide) rfl (fun ls hl => ?_)
  exact L4 200 _ _ _ _ _ _ (lv_sub hl [2, 1, 0] rfl) hd he
set_option maxRecDepth 100000 in
set_option maxHeartbeats 4000000 in
theorem c_X4_keep (l : Launch) (G : Gd) (hJ : Inj 11 G.2.2) {a1 : Int32} {a2 : Int32} {V V' : VV} {r : Int32} (he : f_X4_keep a1 a2 V = some (r, V')) : MI l 11 G XM yX4_keep cX4_keep 3 4 86 [.ref (G.2.2 0), .int a1, .int a2] (cM G V) (cM G V') r := by
  refine walk_of (own := RX4) (by decide) rfl hJ (xs_M G) (Nat.le_of_ble_eq_true rfl) ?_
  intro p e s m below meth c C hr hlk ls hl hd
  have hl : lv_has ls 3 [(0, .ref (G.2.2 0)), (1, .int a1), (2, .int a2)] := hl
  obtain ⟨⟨hx, hb, hml, hown, hts⟩, -⟩ := id C
  unfold f_X4_keep at he
  refine lv_aload_n hx hb dX4_keep_0 rfl (lv_at hl 0 rfl) ?_
  refine lv_iload_n hx hb dX4_keep_1 rfl (lv_at hl 1 rfl) ?_
  refine lv_iload_n hx hb dX4_keep_2 rfl (lv_at hl 2 rfl) ?_
  replace he := b_some he
  obtain ⟨⟨r1, V1⟩, h1, he⟩ := he
  refine kVZ C hd hl.1 kw_X4_118 (by decide) cM0 rfl (c_X4_areTwo l G hJ h1) ⟨Nat.le_of_ble_eq_true rfl, Nat.le_of_ble_eq_true rfl⟩ rfl (rest := []) rfl (Nat.le_of_ble_eq_true rfl) dX4_keep_3 (fun H locs hz1 hd => ?_)
  refine lv_if_ne (tgt := 16) hx hb dX4_keep_6 (by decide) (fun hc2 => ?_) (fun hc2 => ?_)
  · replace he := i_f hc2 he
    refine lv_aload_n hx hb dX4_keep_16 rfl (lv_at hl 0 rfl) ?_
    refine lv_iload_n hx hb dX4_keep_17 rfl (lv_at hl 1 rfl) ?_
    replace he := b_some he
    obtain ⟨⟨r3, V3⟩, h3, he⟩ := he
    refine kVZ C hd hl.1 kw_X4_95 (by decide) cM0 rfl (c_X4_isFree l G hJ h3) ⟨Nat.le_of_ble_eq_true rfl, Nat.le_of_ble_eq_true rfl⟩ rfl (rest := []) rfl (Nat.le_of_ble_eq_true rfl) dX4_keep_18 (fun H locs hz3 hd => ?_)
    refine lv_if_eq (tgt := 47) hx hb dX4_keep_21 (by decide) (fun hc4 => ?_) (fun hc4 => ?_)
    · replace he := i_t hc4 he
      refine lv_aload_n hx hb dX4_keep_47 rfl (lv_at hl 0 rfl) ?_
      refine lv_ldc hx hb hown (hts _ tw859) dX4_keep_48 ?_
      replace he := b_some he
      obtain ⟨⟨r5, V5⟩, h5, he⟩ := he
      refine kVI C hd hl.1 kw_X4_66 (by decide) cM0 rfl (c_X4_finds l G hJ h5) ⟨Nat.le_of_ble_eq_true rfl, Nat.le_of_ble_eq_true rfl⟩ rfl (rest := []) rfl (Nat.le_of_ble_eq_true rfl) dX4_keep_50 (fun H locs hd => ?_)
      exact retIe (cf := (cM G)) C hr hlk hd he dX4_keep_53
    · replace he := i_f hc4 he
      refine lv_aload_n hx hb dX4_keep_24 rfl (lv_at hl 0 rfl) ?_
      refine lv_iload_n hx hb dX4_keep_25 rfl (lv_at hl 2 rfl) ?_
      replace he := b_some he
      obtain ⟨⟨r6, V6⟩, h6, he⟩ := he
      refine kVZ C hd hl.1 kw_X4_95 (by decide) cM0 rfl (c_X4_isFree l G hJ h6) ⟨Nat.le_of_ble_eq_true rfl, Nat.le_of_ble_eq_true rfl⟩ rfl (rest := []) rfl (Nat.le_of_ble_eq_true rfl) dX4_keep_26 (fun H locs hz6 hd => ?_)
      refine lv_if_eq (tgt := 47) hx hb dX4_keep_29 (by decide) (fun hc7 => ?_) (fun hc7 => ?_)
      · replace he := i_t hc7 he
        refine lv_aload_n hx hb dX4_keep_47 rfl (lv_at hl 0 rfl) ?_
        refine lv_ldc hx hb hown (hts _ tw859) dX4_keep_48 ?_
        replace he := b_some he
        obtain ⟨⟨r8, V8⟩, h8, he⟩ := he
        refine kVI C hd hl.1 kw_X4_66 (by decide) cM0 rfl (c_X4_finds l G hJ h8) ⟨Nat.le_of_ble_eq_true rfl, Nat.le_of_ble_eq_true rfl⟩ rfl (rest := []) rfl (Nat.le_of_ble_eq_true rfl) dX4_keep_50 (fun H locs hd => ?_)
        exact retIe (cf := (cM G)) C hr hlk hd he dX4_keep_53
      · replace he := i_f hc7 he
        refine lv_aload_n hx hb dX4_keep_32 rfl (lv_at hl 0 rfl) ?_
        refine lv_iload_n hx hb dX4_keep_33 rfl (lv_at hl 1 rfl) ?_
        refine lv_iconst (v := 1) hx hb dX4_keep_34 (by decide) ?_
        replace he := b_some he
        obtain ⟨⟨r9, V9⟩, h9, he⟩ := he
        refine kVI C hd hl.1 kw_X4_58 (by decide) cM0 rfl (c_X4_its l G hJ h9) ⟨Nat.le_of_ble_eq_true rfl, Nat.le_of_ble_eq_true rfl⟩ rfl (rest := []) rfl (Nat.le_of_ble_eq_true rfl) dX4_keep_35 (fun H locs hd => ?_)
        refine lv_aload_n hx hb dX4_keep_38 rfl (lv_at hl 0 rfl) ?_
        refine lv_iload_n hx hb dX4_keep_39 rfl (lv_at hl 2 rfl) ?_
        refine lv_iconst (v := 1) hx hb dX4_keep_40 (by decide) ?_
        replace he := b_some he
        obtain ⟨⟨r10, V10⟩, h10, he⟩ := he
        refine kVI C hd hl.1 kw_X4_58 (by decide) cM0 rfl (c_X4_its l G hJ h10) ⟨Nat.le_of_ble_eq_true rfl, Nat.le_of_ble_eq_true rfl⟩ rfl (rest := [.int _]) rfl (Nat.le_of_ble_eq_true rfl) dX4_keep_41 (fun H locs hd => ?_)
        refine lv_icmp_eq (tgt := 54) hx hb dX4_keep_44 (by decide) (fun hc11 => ?_) (fun hc11 => ?_)
        · replace he := i_t hc11 he
          refine lv_aload_n hx hb dX4_keep_54 rfl (lv_at hl 0 rfl) ?_
          refine lv_iload_n hx hb dX4_keep_55 rfl (lv_at hl 1 rfl) ?_
          refine lv_iload_n hx hb dX4_keep_56 rfl (lv_at hl 2 rfl) ?_
          replace he := b_some he
          obtain ⟨V12, h12, he⟩ := he
          refine kVV C hd hl.1 kw_X4_121 (by decide) cM0 rfl (c_X4_keeps l G hJ h12) ⟨Nat.le_of_ble_eq_true rfl, Nat.le_of_ble_eq_true rfl⟩ rfl (rest := []) rfl (Nat.le_of_ble_eq_true rfl) dX4_keep_57 (fun H locs hd => ?_)
          refine lv_aload_n hx hb dX4_keep_60 rfl (lv_at hl 0 rfl) ?_
          replace he := b_some he
          obtain ⟨⟨r13, V13⟩, h13, he⟩ := he
          refine kVI C hd hl.1 kw_X4_124 (by decide) cM0 rfl (c_X4_thoseKept l G hJ h13) ⟨Nat.le_of_ble_eq_true rfl, Nat.le_of_ble_eq_true rfl⟩ rfl (rest := []) rfl (Nat.le_of_ble_eq_true rfl) dX4_keep_61 (fun H locs hd => ?_)
          replace he := b_some he
          obtain ⟨⟨r14, V14⟩, h14, he⟩ := he
          refine kSI C hd hl.1 kw_X4_128 (c_X4_ones l G hJ h14) ⟨Nat.le_of_ble_eq_true rfl, Nat.le_of_ble_eq_true rfl⟩ rfl (rest := []) rfl (Nat.le_of_ble_eq_true rfl) dX4_keep_64 (fun H locs hd => ?_)
          exact retIe (cf := (cM G)) C hr hlk hd he dX4_keep_67
        · replace he := i_f hc11 he
          refine lv_aload_n hx hb dX4_keep_47 rfl (lv_at hl 0 rfl) ?_
          refine lv_ldc hx hb hown (hts _ tw859) dX4_keep_48 ?_
          replace he := b_some he
          obtain ⟨⟨r15, V15⟩, h15, he⟩ := he
          refine kVI C hd hl.1 kw_X4_66 (by decide) cM0 rfl (c_X4_finds l G hJ h15) ⟨Nat.le_of_ble_eq_true rfl, Nat.le_of_ble_eq_true rfl⟩ rfl (rest := []) rfl (Nat.le_of_ble_eq_true rfl) dX4_keep_50 (fun H locs hd => ?_)
          exact retIe (cf := (cM G)) C hr hlk hd he dX4_keep_53
  · replace he := i_t hc2 he
    refine lv_aload_n hx hb dX4_keep_9 rfl (lv_at hl 0 rfl) ?_
    refine lv_ldc hx hb hown (hts _ tw768) dX4_keep_10 ?_
    replace he := b_some he
    obtain ⟨⟨r16, V16⟩, h16, he⟩ := he
    refine kVI C hd hl.1 kw_X4_66 (by decide) cM0 rfl (c_X4_finds l G hJ h16) ⟨Nat.le_of_ble_eq_true rfl, Nat.le_of_ble_eq_true rfl⟩ rfl (rest := []) rfl (Nat.le_of_ble_eq_true rfl) dX4_keep_12 (fun H locs hd => ?_)
    exact retIe (cf := (cM G)) C hr hlk hd he dX4_keep_15
set_option maxRecDepth 100000 in
set_option maxHeartbeats 4000000 in
theorem c_X4_isFoggy (l : Launch) (G : Gd) (hJ : Inj 11 G.2.2) {V V' : VV} {r : Int32} (he : f_X4_isFoggy V = some (r, V')) : MZ l 11 G XM yX4_isFoggy cX4_isFoggy 1 0 0 [.ref (G.2.2 0)] (cM G V) (cM G V') r := by
  refine walk_of (own := RX4) (by decide) rfl hJ (xs_M G) (Nat.le_of_ble_eq_true rfl) ?_
  intro p e s m below meth c C hr hlk ls hl hd
  have hl : lv_has ls 1 [(0, .ref (G.2.2 0))] := hl
  obtain ⟨⟨hx, hb, hml, hown, hts⟩, -⟩ := id C
  unfold f_X4_isFoggy at he
  refine lv_aload_n hx hb dX4_isFoggy_0 rfl (lv_at hl 0 rfl) ?_
  refine rgetf C hd (by decide) cM0 rfl tgX4 0 (by decide) tw701 rfl dX4_isFoggy_1 ?_
  refine lv_iconst (v := 2) hx hb dX4_isFoggy_4 (by decide) ?_
  replace he := g_some he
  obtain ⟨hi1, he⟩ := he
  refine riald C hd (by decide) cMa1 hi1 dX4_isFoggy_5 ?_
  refine lv_aload_n hx hb dX4_isFoggy_6 rfl (lv_at hl 0 rfl) ?_
  refine rgetf C hd (by decide) cM0 rfl tgX4 0 (by decide) tw701 rfl dX4_isFoggy_7 ?_
  refine lv_iconst (v := 1) hx hb dX4_isFoggy_10 (by decide) ?_
  replace he := g_some he
  obtain ⟨hi2, he⟩ := he
  refine riald C hd (by decide) cMa1 hi2 dX4_isFoggy_11 ?_
  refine lv_bipush (v := 24) hx hb dX4_isFoggy_12 (by decide) ?_
  refine lv_irem hx hb dX4_isFoggy_14 (by decide) ?_
  refine lv_ishr hx hb dX4_isFoggy_15 ?_
  refine lv_iconst (v := 1) hx hb dX4_isFoggy_16 (by decide) ?_
  refine lv_iand hx hb dX4_isFoggy_17 ?_
  refine lv_iconst (v := 1) hx hb dX4_isFoggy_18 (by decide) ?_
  refine lv_icmp_ne (tgt := 26) hx hb dX4_isFoggy_19 (by decide) (fun hc3 => ?_) (fun hc3 => ?_)
  · replace he := i_f hc3 he
    refine lv_iconst (v := 0) hx hb dX4_isFoggy_26 (by decide) ?_
    exact retZe (cf := (cM G)) C hr hlk hd rfl he dX4_isFoggy_27
  · replace he := i_t hc3 he
    refine lv_iconst (v := 1) hx hb dX4_isFoggy_22 (by decide) ?_
    refine lv_goto (tgt := 27) hx hb dX4_isFoggy_23 (by decide) ?_
    exact retZe (cf := (cM G)) C hr hlk hd rfl he dX4_isFoggy_27
set_option maxRecDepth 100000 in
set_option maxHeartbeats 4000000 in
theorem c_X4_turns (l : Launch) (G : Gd) (hJ : Inj 11 G.2.2) {a1 : Int32} {V V' : VV} (he : f_X4_turns a1 V = some V') : MV l 11 G XM yX4_turns cX4_turns 2 2 43 [.ref (G.2.2 0), .int a1] (cM G V) (cM G V') := by
  refine walk_of (own := RX4) (by decide) rfl hJ (xs_M G) (Nat.le_of_ble_eq_true rfl) ?_
  intro p e s m below meth c C hr hlk ls hl hd
  have hl : lv_has ls 2 [(0, .ref (G.2.2 0)), (1, .int a1)] := hl
  obtain ⟨⟨hx, hb, hml, hown, hts⟩, -⟩ := id C
  unfold f_X4_turns at he
  refine lv_aload_n hx hb dX4_turns_0 rfl (lv_at hl 0 rfl) ?_
  refine rgetf C hd (by decide) cM0 rfl tgX4 0 (by decide) tw701 rfl dX4_turns_1 ?_
  refine lv_iload_n hx hb dX4_turns_4 rfl (lv_at hl 1 rfl) ?_
  refine lv_iconst (v := 3) hx hb dX4_turns_5 (by decide) ?_
  replace he := b_some he
  obtain ⟨⟨r1, V1⟩, h1, he⟩ := he
  refine kSI C hd hl.1 kw_X4_54 (c_X4_spotOf l G hJ h1) ⟨Nat.le_of_ble_eq_true rfl, Nat.le_of_ble_eq_true rfl⟩ rfl (rest := [.ref _]) rfl (Nat.le_of_ble_eq_true rfl) dX4_turns_6 (fun H locs hd => ?_)
  refine lv_aload_n hx hb dX4_turns_9 rfl (lv_at hl 0 rfl) ?_
  refine lv_iload_n hx hb dX4_turns_10 rfl (lv_at hl 1 rfl) ?_
  refine lv_iconst (v := 3) hx hb dX4_turns_11 (by decide) ?_
  replace he := b_some he
  obtain ⟨⟨r2, V2⟩, h2, he⟩ := he
  refine kVI C hd hl.1 kw_X4_58 (by decide) cM0 rfl (c_X4_its l G hJ h2) ⟨Nat.le_of_ble_eq_true rfl, Nat.le_of_ble_eq_true rfl⟩ rfl (rest := [.int _, .ref _]) rfl (Nat.le_of_ble_eq_true rfl) dX4_turns_12 (fun H locs hd => ?_)
  refine lv_iconst (v := 1) hx hb dX4_turns_15 (by decide) ?_
  refine lv_iadd hx hb dX4_turns_16 ?_
  refine lv_iconst (v := 4) hx hb dX4_turns_17 (by decide) ?_
  refine lv_irem hx hb dX4_turns_18 (by decide) ?_
  replace he := g_some he
  obtain ⟨hi3, he⟩ := he
  replace he := bv_ex he
  obtain ⟨V4, e4, he⟩ := he
  refine riast (cell' := (cM G) V4) C hd (by decide) cMa1 hi3 (cMaw1 e4) (cM_ne e4) dX4_turns_19 (fun H locs hd => ?_)
  exact retVe (cf := (cM G)) C hr hlk hd he dX4_turns_20
set_option maxRecDepth 100000 in
set_option maxHeartbeats 4000000 in
theorem c_X4_towards (l : Launch) (G : Gd) (hJ : Inj 11 G.2.2) {a1 : Int32} {a2 : Int32} {V V' : VV} {r : Int32} (he : f_X4_towards a1 a2 V = some (r, V')) : MI l 11 G XM yX4_towards cX4_towards 2 0 0 [.int a1, .int a2] (cM G V) (cM G V') r := by
  refine walk_of (own := RX4) (by decide) rfl hJ (xs_M G) (Nat.le_of_ble_eq_true rfl) ?_
  intro p e s m below meth c C hr hlk ls hl hd
  have hl : lv_has ls 2 [(0, .int a1), (1, .int a2)] := hl
  obtain ⟨⟨hx, hb, hml, hown, hts⟩, -⟩ := id C
  unfold f_X4_towards at he
  refine lv_iload_n hx hb dX4_towards_0 rfl (lv_at hl 1 rfl) ?_
  replace he := ite_cases he
  rcases he with ⟨hc1, he⟩ | ⟨hc1, he⟩
  · refine rtabIn (k := 0) (off := 27) (tgt := 28) hx hb dX4_towards_1 hc1 (by decide) (by decide) rfl (by decide) ?_
    refine lv_iload_n hx hb dX4_towards_28 rfl (lv_at hl 0 rfl) ?_
    refine lv_bipush (v := 6) hx hb dX4_towards_29 (by decide) ?_
    refine lv_icmp_ge (tgt := 38) hx hb dX4_towards_31 (by decide) (fun hc2 => ?_) (fun hc2 => ?_)
    · replace he := i_t hc2 he
      refine lv_iload_n hx hb dX4_towards_38 rfl (lv_at hl 0 rfl) ?_
      refine lv_bipush (v := 6) hx hb dX4_towards_39 (by decide) ?_
      refine lv_isub hx hb dX4_towards_41 ?_
      exact retIe (cf := (cM G)) C hr hlk hd he dX4_towards_42
    · replace he := i_f hc2 he
      refine lv_iconst (v := (-1)) hx hb dX4_towards_34 (by decide) ?_
      refine lv_goto (tgt := 42) hx hb dX4_towards_35 (by decide) ?_
      exact retIe (cf := (cM G)) C hr hlk hd he dX4_towards_42
  · replace he := ite_cases he
    rcases he with ⟨hc3, he⟩ | ⟨hc3, he⟩
    · refine rtabIn (k := 1) (off := 42) (tgt := 43) hx hb dX4_towards_1 hc3 (by decide) (by decide) rfl (by decide) ?_
      refine lv_iload_n hx hb dX4_towards_43 rfl (lv_at hl 0 rfl) ?_
      refine lv_bipush (v := 6) hx hb dX4_towards_44 (by decide) ?_
      refine lv_irem hx hb dX4_towards_46 (by decide) ?_
      refine lv_iconst (v := 5) hx hb dX4_towards_47 (by decide) ?_
      refine lv_icmp_ne (tgt := 55) hx hb dX4_towards_48 (by decide) (fun hc4 => ?_) (fun hc4 => ?_)
      · replace he := i_f hc4 he
        refine lv_iload_n hx hb dX4_towards_55 rfl (lv_at hl 0 rfl) ?_
        refine lv_iconst (v := 1) hx hb dX4_towards_56 (by decide) ?_
        refine lv_iadd hx hb dX4_towards_57 ?_
        exact retIe (cf := (cM G)) C hr hlk hd he dX4_towards_58
      · replace he := i_t hc4 he
        refine lv_iconst (v := (-1)) hx hb dX4_towards_51 (by decide) ?_
        refine lv_goto (tgt := 58) hx hb dX4_towards_52 (by decide) ?_
        exact retIe (cf := (cM G)) C hr hlk hd he dX4_towards_58
    · replace he := ite_cases he
      rcases he with ⟨hc5, he⟩ | ⟨hc5, he⟩
      · refine rtabIn (k := 2) (off := 58) (tgt := 59) hx hb dX4_towards_1 hc5 (by decide) (by decide) rfl (by decide) ?_
        refine lv_iload_n hx hb dX4_towards_59 rfl (lv_at hl 0 rfl) ?_
        refine lv_bipush (v := 30) hx hb dX4_towards_60 (by decide) ?_
        refine lv_icmp_lt (tgt := 69) hx hb dX4_towards_62 (by decide) (fun hc6 => ?_) (fun hc6 => ?_)
        · replace he := i_t hc6 he
          refine lv_iload_n hx hb dX4_towards_69 rfl (lv_at hl 0 rfl) ?_
          refine lv_bipush (v := 6) hx hb dX4_towards_70 (by decide) ?_
          refine lv_iadd hx hb dX4_towards_72 ?_
          exact retIe (cf := (cM G)) C hr hlk hd he dX4_towards_73
        · replace he := i_f hc6 he
          refine lv_iconst (v := (-1)) hx hb dX4_towards_65 (by decide) ?_
          refine lv_goto (tgt := 73) hx hb dX4_towards_66 (by decide) ?_
          exact retIe (cf := (cM G)) C hr hlk hd he dX4_towards_73
      · refine lv_tableOut (tgt := 74) hx hb dX4_towards_1 (tbl_out (fun k k1 k2 => by rcases (show k = 0 ∨ k = 1 ∨ k = 2 by omega) with rfl | rfl | rfl <;> first | exact hc1 | exact hc3 | exact hc5)) (by decide) ?_
        refine lv_iload_n hx hb dX4_towards_74 rfl (lv_at hl 0 rfl) ?_
        refine lv_bipush (v := 6) hx hb dX4_towards_75 (by decide) ?_
        refine lv_irem hx hb dX4_towards_77 (by decide) ?_
        refine lv_if_ne (tgt := 85) hx hb dX4_towards_78 (by decide) (fun hc7 => ?_) (fun hc7 => ?_)
        · replace he := i_f hc7 he
          refine lv_iload_n hx hb dX4_towards_85 rfl (lv_at hl 0 rfl) ?_
          refine lv_iconst (v := 1) hx hb dX4_towards_86 (by decide) ?_
          refine lv_isub hx hb dX4_towards_87 ?_
          exact retIe (cf := (cM G)) C hr hlk hd he dX4_towards_88
        · replace he := i_t hc7 he
          refine lv_iconst (v := (-1)) hx hb dX4_towards_81 (by decide) ?_
          refine lv_goto (tgt := 88) hx hb dX4_towards_82 (by decide) ?_
          exact retIe (cf := (cM G)) C hr hlk hd he dX4_towards_88
set_option maxRecDepth 100000 in
set_option maxHeartbeats 4000000 in
theorem c_X4_goes (l : Launch) (G : Gd) (hJ : Inj 11 G.2.2) {a1 : Int32} {V V' : VV} (he : f_X4_goes a1 V = some V') : MV l 11 G XM yX4_goes cX4_goes 6 4 86 [.ref (G.2.2 0), .int a1] (cM G V) (cM G V') := by
  refine walk_of (own := RX4) (by decide) rfl hJ (xs_M G) (Nat.le_of_ble_eq_true rfl) ?_
  intro p e s m below meth c C hr hlk ls hl hd
  have hl : lv_has ls 6 [(0, .ref (G.2.2 0)), (1, .int a1)] := hl
  obtain ⟨⟨hx, hb, hml, hown, hts⟩, -⟩ := id C
  have L35 : ∀ (fuel : Nat) (x1 : Int32) (x3 : Int32) (x4 : Int32) (V : VV) (H : Heap) (locs : List Loc) (ls : Array Slot), lv_has ls 6 [(0, .ref (G.2.2 0)), (1, .int x1), (3, .int x3), (4, .int x4)] → Dy 11 G (cM G V) s H locs → f_X4_goes_L35 fuel x1 x3 x4 V = some V' → W p l e (rmF 4 86) s m ([.ref (G.2.2 0), .int a1] : List Value).toArray below meth c H locs 0 0 (MQ below (QV 11 G (cM G V')) ([.ref (G.2.2 0), .int a1] : List Value).toArray s 0 0 (inA 11 G.2.2)) (F0 m 35 ls []) := by
    intro fuel
    induction fuel with
    | zero => intro x1 x3 x4 V H locs ls hl hd he; simp [f_X4_goes_L35] at he
    | succ n ih35 =>
      intro x1 x3 x4 V H locs ls hl hd he
      rw [f_X4_goes_L35] at he
      refine lv_iload hx hb dX4_goes_35 (lv_at hl 3 rfl) ?_
      refine lv_iload_n hx hb dX4_goes_37 rfl (lv_at hl 2 rfl) ?_
      refine lv_icmp_ge (tgt := 89) hx hb dX4_goes_38 (by decide) (fun hc4 => ?_) (fun hc4 => ?_)
      · replace he := i_t hc4 he
        refine lv_aload_n hx hb dX4_goes_89 rfl (lv_at hl 0 rfl) ?_
        refine lv_iload_n hx hb dX4_goes_90 rfl (lv_at hl 1 rfl) ?_
        refine lv_aload_n hx hb dX4_goes_91 rfl (lv_at hl 0 rfl) ?_
        refine lv_iload_n hx hb dX4_goes_92 rfl (lv_at hl 1 rfl) ?_
        refine lv_iconst (v := 1) hx hb dX4_goes_93 (by decide) ?_
        replace he := b_some he
        obtain ⟨⟨r5, V5⟩, h5, he⟩ := he
        refine kVI C hd hl.1 kw_X4_58 (by decide) cM0 rfl (c_X4_its l G hJ h5) ⟨Nat.le_of_ble_eq_true rfl, Nat.le_of_ble_eq_true rfl⟩ rfl (rest := [.int _, .ref _]) rfl (Nat.le_of_ble_eq_true rfl) dX4_goes_94 (fun H locs hd => ?_)
        replace he := b_some he
        obtain ⟨V6, h6, he⟩ := he
        refine kVV C hd hl.1 kw_X4_102 (by decide) cM0 rfl (c_X4_comesTo l G hJ h6) ⟨Nat.le_of_ble_eq_true rfl, Nat.le_of_ble_eq_true rfl⟩ rfl (rest := []) rfl (Nat.le_of_ble_eq_true rfl) dX4_goes_97 (fun H locs hd => ?_)
        exact retVe (cf := (cM G)) C hr hlk hd he dX4_goes_100
      · replace he := i_f hc4 he
        refine lv_aload_n hx hb dX4_goes_41 rfl (lv_at hl 0 rfl) ?_
        refine lv_iload_n hx hb dX4_goes_42 rfl (lv_at hl 1 rfl) ?_
        refine lv_iconst (v := 1) hx hb dX4_goes_43 (by decide) ?_
        replace he := b_some he
        obtain ⟨⟨r7, V7⟩, h7, he⟩ := he
        refine kVI C hd hl.1 kw_X4_58 (by decide) cM0 rfl (c_X4_its l G hJ h7) ⟨Nat.le_of_ble_eq_true rfl, Nat.le_of_ble_eq_true rfl⟩ rfl (rest := []) rfl (Nat.le_of_ble_eq_true rfl) dX4_goes_44 (fun H locs hd => ?_)
        refine lv_aload_n hx hb dX4_goes_47 rfl (lv_at hl 0 rfl) ?_
        refine lv_iload_n hx hb dX4_goes_48 rfl (lv_at hl 1 rfl) ?_
        refine lv_iconst (v := 3) hx hb dX4_goes_49 (by decide) ?_
        replace he := b_some he
        obtain ⟨⟨r8, V8⟩, h8, he⟩ := he
        refine kVI C hd hl.1 kw_X4_58 (by decide) cM0 rfl (c_X4_its l G hJ h8) ⟨Nat.le_of_ble_eq_true rfl, Nat.le_of_ble_eq_true rfl⟩ rfl (rest := [.int _]) rfl (Nat.le_of_ble_eq_true rfl) dX4_goes_50 (fun H locs hd => ?_)
        replace he := b_some he
        obtain ⟨⟨r9, V9⟩, h9, he⟩ := he
        refine kSI C hd hl.1 kw_X4_134 (c_X4_towards l G hJ h9) ⟨Nat.le_of_ble_eq_true rfl, Nat.le_of_ble_eq_true rfl⟩ rfl (rest := []) rfl (Nat.le_of_ble_eq_true rfl) dX4_goes_53 (fun H locs hd => ?_)
        refine lv_istore (lv' := [(5, .int _), (0, .ref _), (1, .int _), (3, .int _), (4, .int _)]) hx hb dX4_goes_56 hl (by decide) rfl (fun ls hl => ?_)
        refine lv_iload hx hb dX4_goes_58 (lv_at hl 0 rfl) ?_
        refine lv_if_ge (tgt := 71) hx hb dX4_goes_60 (by decide) (fun hc10 => ?_) (fun hc10 => ?_)
        · replace he := i_t hc10 he
          refine lv_aload_n hx hb dX4_goes_71 rfl (lv_at hl 1 rfl) ?_
          refine rgetf C hd (by decide) cM0 rfl tgX4 0 (by decide) tw701 rfl dX4_goes_72 ?_
          refine lv_iload_n hx hb dX4_goes_75 rfl (lv_at hl 2 rfl) ?_
          refine lv_iconst (v := 1) hx hb dX4_goes_76 (by decide) ?_
          replace he := b_some he
          obtain ⟨⟨r11, V11⟩, h11, he⟩ := he
          refine kSI C hd hl.1 kw_X4_54 (c_X4_spotOf l G hJ h11) ⟨Nat.le_of_ble_eq_true rfl, Nat.le_of_ble_eq_true rfl⟩ rfl (rest := [.ref _]) rfl (Nat.le_of_ble_eq_true rfl) dX4_goes_77 (fun H locs hd => ?_)
          refine lv_iload hx hb dX4_goes_80 (lv_at hl 0 rfl) ?_
          replace he := g_some he
          obtain ⟨hi12, he⟩ := he
          replace he := bv_ex he
          obtain ⟨V13, e13, he⟩ := he
          refine riast (cell' := (cM G) V13) C hd (by decide) cMa1 hi12 (cMaw1 e13) (cM_ne e13) dX4_goes_82 (fun H locs hd => ?_)
          refine lv_iinc (v := _ + 1) (lv' := [(4, .int _), (5, .int _), (0, .ref _), (1, .int _), (3, .int _)]) hx hb dX4_goes_83 hl (k := 4) rfl rfl (by decide) rfl (fun ls hl => ?_)
          refine lv_goto (tgt := 35) hx hb dX4_goes_86 (by decide) ?_
          exact ih35 _ _ _ _ _ _ _ (lv_sub hl [2, 3, 4, 0] rfl) hd he
        · replace he := i_f hc10 he
          refine lv_aload_n hx hb dX4_goes_63 rfl (lv_at hl 1 rfl) ?_
          refine lv_iload_n hx hb dX4_goes_64 rfl (lv_at hl 2 rfl) ?_
          replace he := b_some he
          obtain ⟨V14, h14, he⟩ := he
          refine kVV C hd hl.1 kw_X4_131 (by decide) cM0 rfl (c_X4_turns l G hJ h14) ⟨Nat.le_of_ble_eq_true rfl, Nat.le_of_ble_eq_true rfl⟩ rfl (rest := []) rfl (Nat.le_of_ble_eq_true rfl) dX4_goes_65 (fun H locs hd => ?_)
          refine lv_goto (tgt := 83) hx hb dX4_goes_68 (by decide) ?_
          refine lv_iinc (v := _ + 1) (lv' := [(4, .int _), (5, .int _), (0, .ref _), (1, .int _), (3, .int _)]) hx hb dX4_goes_83 hl (k := 4) rfl rfl (by decide) rfl (fun ls hl => ?_)
          refine lv_goto (tgt := 35) hx hb dX4_goes_86 (by decide) ?_
          exact ih35 _ _ _ _ _ _ _ (lv_sub hl [2, 3, 4, 0] rfl) hd he
  have L15 : ∀ (fuel : Nat) (x1 : Int32) (x2 : Int32) (x3 : Int32) (x4 : Int32) (V : VV) (H : Heap) (locs : List Loc) (ls : Array Slot), lv_has ls 6 [(0, .ref (G.2.2 0)), (1, .int x1), (2, .int x2), (3, .int x3), (4, .int x4)] → Dy 11 G (cM G V) s H locs → f_X4_goes_L15 fuel x1 x2 x3 x4 V = some V' → W p l e (rmF 4 86) s m ([.ref (G.2.2 0), .int a1] : List Value).toArray below meth c H locs 0 0 (MQ below (QV 11 G (cM G V')) ([.ref (G.2.2 0), .int a1] : List Value).toArray s 0 0 (inA 11 G.2.2)) (F0 m 15 ls []) := by
    intro fuel
    induction fuel with
    | zero => intro x1 x2 x3 x4 V H locs ls hl hd he; simp [f_X4_goes_L15] at he
    | succ n ih15 =>
      intro x1 x2 x3 x4 V H locs ls hl hd he
      rw [f_X4_goes_L15] at he
      refine lv_iload hx hb dX4_goes_15 (lv_at hl 4 rfl) ?_
      refine lv_iload_n hx hb dX4_goes_17 rfl (lv_at hl 2 rfl) ?_
      refine lv_icmp_ge (tgt := 32) hx hb dX4_goes_18 (by decide) (fun hc3 => ?_) (fun hc3 => ?_)
      · replace he := i_t hc3 he
        refine lv_iconst (v := 0) hx hb dX4_goes_32 (by decide) ?_
        refine lv_istore (lv' := [(4, .int _), (0, .ref _), (1, .int _), (2, .int _), (3, .int _)]) hx hb dX4_goes_33 hl (by decide) rfl (fun ls hl => ?_)
        exact L35 200 _ _ _ _ _ _ _ (lv_sub hl [1, 2, 4, 0] rfl) hd he
      · replace he := i_f hc3 he
        refine lv_aload_n hx hb dX4_goes_21 rfl (lv_at hl 0 rfl) ?_
        refine lv_iload_n hx hb dX4_goes_22 rfl (lv_at hl 1 rfl) ?_
        replace he := b_some he
        obtain ⟨V15, h15, he⟩ := he
        refine kVV C hd hl.1 kw_X4_131 (by decide) cM0 rfl (c_X4_turns l G hJ h15) ⟨Nat.le_of_ble_eq_true rfl, Nat.le_of_ble_eq_true rfl⟩ rfl (rest := []) rfl (Nat.le_of_ble_eq_true rfl) dX4_goes_23 (fun H locs hd => ?_)
        refine lv_iinc (v := _ + 1) (lv' := [(4, .int _), (0, .ref _), (1, .int _), (2, .int _), (3, .int _)]) hx hb dX4_goes_26 hl (k := 4) rfl rfl (by decide) rfl (fun ls hl => ?_)
        refine lv_goto (tgt := 15) hx hb dX4_goes_29 (by decide) ?_
        exact ih15 _ _ _ _ _ _ _ _ (lv_sub hl [1, 2, 3, 4, 0] rfl) hd he
  unfold f_X4_goes at he
  refine lv_aload_n hx hb dX4_goes_0 rfl (lv_at hl 0 rfl) ?_
  refine lv_iload_n hx hb dX4_goes_1 rfl (lv_at hl 1 rfl) ?_
  replace he := b_some he
  obtain ⟨⟨r1, V1⟩, h1, he⟩ := he
  refine kVI C hd hl.1 kw_X4_88 (by decide) cM0 rfl (c_X4_turnsOf l G hJ h1) ⟨Nat.le_of_ble_eq_true rfl, Nat.le_of_ble_eq_true rfl⟩ rfl (rest := []) rfl (Nat.le_of_ble_eq_true rfl) dX4_goes_2 (fun H locs hd => ?_)
  refine lv_istore_n (lv' := [(2, .int _), (0, .ref _), (1, .int _)]) hx hb dX4_goes_5 rfl hl (by decide) rfl (fun ls hl => ?_)
  refine lv_aload_n hx hb dX4_goes_6 rfl (lv_at hl 1 rfl) ?_
  refine lv_iload_n hx hb dX4_goes_7 rfl (lv_at hl 2 rfl) ?_
  replace he := b_some he
  obtain ⟨⟨r2, V2⟩, h2, he⟩ := he
  refine kVI C hd hl.1 kw_X4_85 (by decide) cM0 rfl (c_X4_stepsOf l G hJ h2) ⟨Nat.le_of_ble_eq_true rfl, Nat.le_of_ble_eq_true rfl⟩ rfl (rest := []) rfl (Nat.le_of_ble_eq_true rfl) dX4_goes_8 (fun H locs hd => ?_)
  refine lv_istore_n (lv' := [(3, .int _), (2, .int _), (0, .ref _), (1, .int _)]) hx hb dX4_goes_11 rfl hl (by decide) rfl (fun ls hl => ?_)
  refine lv_iconst (v := 0) hx hb dX4_goes_12 (by decide) ?_
  refine lv_istore (lv' := [(4, .int _), (3, .int _), (2, .int _), (0, .ref _), (1, .int _)]) hx hb dX4_goes_13 hl (by decide) rfl (fun ls hl => ?_)
  exact L15 200 _ _ _ _ _ _ _ _ (lv_sub hl [3, 4, 2, 1, 0] rfl) hd he
set_option maxRecDepth 100000 in
set_option maxHeartbeats 4000000 in
theorem c_X4_meetAt (l : Launch) (G : Gd) (hJ : Inj 11 G.2.2) {a1 : Int32} {V V' : VV} (he : f_X4_meetAt a1 V = some V') : MV l 11 G XM yX4_meetAt cX4_meetAt 4 3 65 [.ref (G.2.2 0), .int a1] (cM G V) (cM G V') := by
  refine walk_of (own := RX4) (by decide) rfl hJ (xs_M G) (Nat.le_of_ble_eq_true rfl) ?_
  intro p e s m below meth c C hr hlk ls hl hd
  have hl : lv_has ls 4 [(0, .ref (G.2.2 0)), (1, .int a1)] := hl
  obtain ⟨⟨hx, hb, hml, hown, hts⟩, -⟩ := id C
  have L4 : ∀ (fuel : Nat) (x1 : Int32) (x2 : Int32) (x3 : Int32) (V : VV) (H : Heap) (locs : List Loc) (ls : Array Slot), lv_has ls 4 [(0, .ref (G.2.2 0)), (1, .int x1), (2, .int x2), (3, .int x3)] → Dy 11 G (cM G V) s H locs → f_X4_meetAt_L4 fuel x1 x2 x3 V = some V' → W p l e (rmF 3 65) s m ([.ref (G.2.2 0), .int a1] : List Value).toArray below meth c H locs 0 0 (MQ below (QV 11 G (cM G V')) ([.ref (G.2.2 0), .int a1] : List Value).toArray s 0 0 (inA 11 G.2.2)) (F0 m 4 ls []) := by
    intro fuel
    induction fuel with
    | zero => intro x1 x2 x3 V H locs ls hl hd he; simp [f_X4_meetAt_L4] at he
    | succ n ih4 =>
      intro x1 x2 x3 V H locs ls hl hd he
      rw [f_X4_meetAt_L4] at he
      refine lv_iload_n hx hb dX4_meetAt_4 rfl (lv_at hl 3 rfl) ?_
      refine lv_aload_n hx hb dX4_meetAt_5 rfl (lv_at hl 0 rfl) ?_
      refine rgetf C hd (by decide) cM0 rfl tgX4 0 (by decide) tw701 rfl dX4_meetAt_6 ?_
      refine lv_iconst (v := 0) hx hb dX4_meetAt_9 (by decide) ?_
      replace he := g_some he
      obtain ⟨hi1, he⟩ := he
      refine riald C hd (by decide) cMa1 hi1 dX4_meetAt_10 ?_
      refine lv_icmp_ge (tgt := 55) hx hb dX4_meetAt_11 (by decide) (fun hc2 => ?_) (fun hc2 => ?_)
      · replace he := i_t hc2 he
        refine lv_iload_n hx hb dX4_meetAt_55 rfl (lv_at hl 2 rfl) ?_
        refine lv_if_lt (tgt := 85) hx hb dX4_meetAt_56 (by decide) (fun hc3 => ?_) (fun hc3 => ?_)
        · replace he := i_t hc3 he
          exact retVe (cf := (cM G)) C hr hlk hd he dX4_meetAt_85
        · replace he := i_f hc3 he
          refine lv_aload_n hx hb dX4_meetAt_59 rfl (lv_at hl 0 rfl) ?_
          refine lv_iload_n hx hb dX4_meetAt_60 rfl (lv_at hl 2 rfl) ?_
          refine lv_iconst (v := 0) hx hb dX4_meetAt_61 (by decide) ?_
          replace he := b_some he
          obtain ⟨⟨r4, V4⟩, h4, he⟩ := he
          refine kVI C hd hl.1 kw_X4_58 (by decide) cM0 rfl (c_X4_its l G hJ h4) ⟨Nat.le_of_ble_eq_true rfl, Nat.le_of_ble_eq_true rfl⟩ rfl (rest := []) rfl (Nat.le_of_ble_eq_true rfl) dX4_meetAt_62 (fun H locs hd => ?_)
          refine lv_iconst (v := 5) hx hb dX4_meetAt_65 (by decide) ?_
          refine lv_icmp_ne (tgt := 85) hx hb dX4_meetAt_66 (by decide) (fun hc5 => ?_) (fun hc5 => ?_)
          · replace he := i_f hc5 he
            exact retVe (cf := (cM G)) C hr hlk hd he dX4_meetAt_85
          · replace he := i_t hc5 he
            refine lv_aload_n hx hb dX4_meetAt_69 rfl (lv_at hl 0 rfl) ?_
            refine lv_iload_n hx hb dX4_meetAt_70 rfl (lv_at hl 2 rfl) ?_
            refine lv_iconst (v := 2) hx hb dX4_meetAt_71 (by decide) ?_
            replace he := b_some he
            obtain ⟨⟨r6, V6⟩, h6, he⟩ := he
            refine kVI C hd hl.1 kw_X4_58 (by decide) cM0 rfl (c_X4_its l G hJ h6) ⟨Nat.le_of_ble_eq_true rfl, Nat.le_of_ble_eq_true rfl⟩ rfl (rest := []) rfl (Nat.le_of_ble_eq_true rfl) dX4_meetAt_72 (fun H locs hd => ?_)
            refine lv_iload_n hx hb dX4_meetAt_75 rfl (lv_at hl 1 rfl) ?_
            refine lv_icmp_ne (tgt := 85) hx hb dX4_meetAt_76 (by decide) (fun hc7 => ?_) (fun hc7 => ?_)
            · replace he := i_f hc7 he
              exact retVe (cf := (cM G)) C hr hlk hd he dX4_meetAt_85
            · replace he := i_t hc7 he
              refine lv_aload_n hx hb dX4_meetAt_79 rfl (lv_at hl 0 rfl) ?_
              refine lv_iload_n hx hb dX4_meetAt_80 rfl (lv_at hl 2 rfl) ?_
              refine lv_iload_n hx hb dX4_meetAt_81 rfl (lv_at hl 2 rfl) ?_
              replace he := b_some he
              obtain ⟨V8, h8, he⟩ := he
              refine kVV C hd hl.1 kw_X4_121 (by decide) cM0 rfl (c_X4_keeps l G hJ h8) ⟨Nat.le_of_ble_eq_true rfl, Nat.le_of_ble_eq_true rfl⟩ rfl (rest := []) rfl (Nat.le_of_ble_eq_true rfl) dX4_meetAt_82 (fun H locs hd => ?_)
              exact retVe (cf := (cM G)) C hr hlk hd he dX4_meetAt_85
      · replace he := i_f hc2 he
        refine lv_aload_n hx hb dX4_meetAt_14 rfl (lv_at hl 0 rfl) ?_
        refine lv_iload_n hx hb dX4_meetAt_15 rfl (lv_at hl 3 rfl) ?_
        replace he := b_some he
        obtain ⟨⟨r9, V9⟩, h9, he⟩ := he
        refine kVZ C hd hl.1 kw_X4_95 (by decide) cM0 rfl (c_X4_isFree l G hJ h9) ⟨Nat.le_of_ble_eq_true rfl, Nat.le_of_ble_eq_true rfl⟩ rfl (rest := []) rfl (Nat.le_of_ble_eq_true rfl) dX4_meetAt_16 (fun H locs hz9 hd => ?_)
        refine lv_if_eq (tgt := 49) hx hb dX4_meetAt_19 (by decide) (fun hc10 => ?_) (fun hc10 => ?_)
        · replace he := i_t hc10 he
          refine lv_iinc (v := _ + 1) (lv' := [(3, .int _), (0, .ref _), (1, .int _), (2, .int _)]) hx hb dX4_meetAt_49 hl (k := 3) rfl rfl (by decide) rfl (fun ls hl => ?_)
          refine lv_goto (tgt := 4) hx hb dX4_meetAt_52 (by decide) ?_
          exact ih4 _ _ _ _ _ _ _ (lv_sub hl [1, 2, 3, 0] rfl) hd he
        · replace he := i_f hc10 he
          refine lv_aload_n hx hb dX4_meetAt_22 rfl (lv_at hl 0 rfl) ?_
          refine lv_iload_n hx hb dX4_meetAt_23 rfl (lv_at hl 3 rfl) ?_
          refine lv_iconst (v := 1) hx hb dX4_meetAt_24 (by decide) ?_
          replace he := b_some he
          obtain ⟨⟨r11, V11⟩, h11, he⟩ := he
          refine kVI C hd hl.1 kw_X4_58 (by decide) cM0 rfl (c_X4_its l G hJ h11) ⟨Nat.le_of_ble_eq_true rfl, Nat.le_of_ble_eq_true rfl⟩ rfl (rest := []) rfl (Nat.le_of_ble_eq_true rfl) dX4_meetAt_25 (fun H locs hd => ?_)
          refine lv_iload_n hx hb dX4_meetAt_28 rfl (lv_at hl 1 rfl) ?_
          refine lv_icmp_ne (tgt := 49) hx hb dX4_meetAt_29 (by decide) (fun hc12 => ?_) (fun hc12 => ?_)
          · replace he := i_f hc12 he
            refine lv_iinc (v := _ + 1) (lv' := [(3, .int _), (0, .ref _), (1, .int _), (2, .int _)]) hx hb dX4_meetAt_49 hl (k := 3) rfl rfl (by decide) rfl (fun ls hl => ?_)
            refine lv_goto (tgt := 4) hx hb dX4_meetAt_52 (by decide) ?_
            exact ih4 _ _ _ _ _ _ _ (lv_sub hl [1, 2, 3, 0] rfl) hd he
          · replace he := i_t hc12 he
            refine lv_iload_n hx hb dX4_meetAt_32 rfl (lv_at hl 2 rfl) ?_
            refine lv_if_lt (tgt := 47) hx hb dX4_meetAt_33 (by decide) (fun hc13 => ?_) (fun hc13 => ?_)
            · replace he := i_t hc13 he
              refine lv_iload_n hx hb dX4_meetAt_47 rfl (lv_at hl 3 rfl) ?_
              refine lv_istore_n (lv' := [(2, .int _), (0, .ref _), (1, .int _), (3, .int _)]) hx hb dX4_meetAt_48 rfl hl (by decide) rfl (fun ls hl => ?_)
              refine lv_iinc (v := _ + 1) (lv' := [(3, .int _), (2, .int _), (0, .ref _), (1, .int _)]) hx hb dX4_meetAt_49 hl (k := 3) rfl rfl (by decide) rfl (fun ls hl => ?_)
              refine lv_goto (tgt := 4) hx hb dX4_meetAt_52 (by decide) ?_
              exact ih4 _ _ _ _ _ _ _ (lv_sub hl [2, 3, 1, 0] rfl) hd he
            · replace he := i_f hc13 he
              refine lv_aload_n hx hb dX4_meetAt_36 rfl (lv_at hl 0 rfl) ?_
              refine lv_iload_n hx hb dX4_meetAt_37 rfl (lv_at hl 2 rfl) ?_
              refine lv_iload_n hx hb dX4_meetAt_38 rfl (lv_at hl 3 rfl) ?_
              replace he := b_some he
              obtain ⟨V14, h14, he⟩ := he
              refine kVV C hd hl.1 kw_X4_121 (by decide) cM0 rfl (c_X4_keeps l G hJ h14) ⟨Nat.le_of_ble_eq_true rfl, Nat.le_of_ble_eq_true rfl⟩ rfl (rest := []) rfl (Nat.le_of_ble_eq_true rfl) dX4_meetAt_39 (fun H locs hd => ?_)
              refine lv_iconst (v := (-1)) hx hb dX4_meetAt_42 (by decide) ?_
              refine lv_istore_n (lv' := [(2, .int _), (0, .ref _), (1, .int _), (3, .int _)]) hx hb dX4_meetAt_43 rfl hl (by decide) rfl (fun ls hl => ?_)
              refine lv_goto (tgt := 49) hx hb dX4_meetAt_44 (by decide) ?_
              refine lv_iinc (v := _ + 1) (lv' := [(3, .int _), (2, .int _), (0, .ref _), (1, .int _)]) hx hb dX4_meetAt_49 hl (k := 3) rfl rfl (by decide) rfl (fun ls hl => ?_)
              refine lv_goto (tgt := 4) hx hb dX4_meetAt_52 (by decide) ?_
              exact ih4 _ _ _ _ _ _ _ (lv_sub hl [2, 3, 1, 0] rfl) hd he
  unfold f_X4_meetAt at he
  refine lv_iconst (v := (-1)) hx hb dX4_meetAt_0 (by decide) ?_
  refine lv_istore_n (lv' := [(2, .int _), (0, .ref _), (1, .int _)]) hx hb dX4_meetAt_1 rfl hl (by decide) rfl (fun ls hl => ?_)
  refine lv_iconst (v := 0) hx hb dX4_meetAt_2 (by decide) ?_
  refine lv_istore_n (lv' := [(3, .int _), (2, .int _), (0, .ref _), (1, .int _)]) hx hb dX4_meetAt_3 rfl hl (by decide) rfl (fun ls hl => ?_)
  exact L4 200 _ _ _ _ _ _ _ (lv_sub hl [2, 3, 1, 0] rfl) hd he
set_option maxRecDepth 100000 in
set_option maxHeartbeats 4000000 in
theorem c_X4_goesHour (l : Launch) (G : Gd) (hJ : Inj 11 G.2.2) {V V' : VV} (he : f_X4_goesHour V = some V') : MV l 11 G XM yX4_goesHour cX4_goesHour 3 5 111 [.ref (G.2.2 0)] (cM G V) (cM G V') := by
  refine walk_of (own := RX4) (by decide) rfl hJ (xs_M G) (Nat.le_of_ble_eq_true rfl) ?_
  intro p e s m below meth c C hr hlk ls hl hd
  have hl : lv_has ls 3 [(0, .ref (G.2.2 0))] := hl
  obtain ⟨⟨hx, hb, hml, hown, hts⟩, -⟩ := id C
  have L90 : ∀ (fuel : Nat) (x1 : Int32) (x2 : Int32) (V : VV) (H : Heap) (locs : List Loc) (ls : Array Slot), lv_has ls 3 [(0, .ref (G.2.2 0)), (1, .int x1), (2, .int x2)] → Dy 11 G (cM G V) s H locs → f_X4_goesHour_L90 fuel x1 x2 V = some V' → W p l e (rmF 5 111) s m ([.ref (G.2.2 0)] : List Value).toArray below meth c H locs 0 0 (MQ below (QV 11 G (cM G V')) ([.ref (G.2.2 0)] : List Value).toArray s 0 0 (inA 11 G.2.2)) (F0 m 90 ls []) := by
    intro fuel
    induction fuel with
    | zero => intro x1 x2 V H locs ls hl hd he; simp [f_X4_goesHour_L90] at he
    | succ n ih90 =>
      intro x1 x2 V H locs ls hl hd he
      rw [f_X4_goesHour_L90] at he
      refine lv_iload_n hx hb dX4_goesHour_90 rfl (lv_at hl 2 rfl) ?_
      refine lv_bipush (v := 36) hx hb dX4_goesHour_91 (by decide) ?_
      refine lv_icmp_ge (tgt := 111) hx hb dX4_goesHour_93 (by decide) (fun hc6 => ?_) (fun hc6 => ?_)
      · replace he := i_t hc6 he
        refine lv_aload_n hx hb dX4_goesHour_111 rfl (lv_at hl 0 rfl) ?_
        refine rgetf C hd (by decide) cM0 rfl tgX4 0 (by decide) tw701 rfl dX4_goesHour_112 ?_
        refine lv_iconst (v := 1) hx hb dX4_goesHour_115 (by decide) ?_
        refine lv_dup2_11 hx hb dX4_goesHour_116 rfl rfl ?_
        replace he := g_some he
        obtain ⟨hi7, he⟩ := he
        refine riald C hd (by decide) cMa1 hi7 dX4_goesHour_117 ?_
        refine lv_iconst (v := 1) hx hb dX4_goesHour_118 (by decide) ?_
        refine lv_iadd hx hb dX4_goesHour_119 ?_
        replace he := g_some he
        obtain ⟨hi8, he⟩ := he
        replace he := bv_ex he
        obtain ⟨V9, e9, he⟩ := he
        refine riast (cell' := (cM G) V9) C hd (by decide) cMa1 hi8 (cMaw1 e9) (cM_ne e9) dX4_goesHour_120 (fun H locs hd => ?_)
        exact retVe (cf := (cM G)) C hr hlk hd he dX4_goesHour_121
      · replace he := i_f hc6 he
        refine lv_iload_n hx hb dX4_goesHour_96 rfl (lv_at hl 1 rfl) ?_
        refine lv_if_eq (tgt := 111) hx hb dX4_goesHour_97 (by decide) (fun hc10 => ?_) (fun hc10 => ?_)
        · replace he := i_t hc10 he
          refine lv_aload_n hx hb dX4_goesHour_111 rfl (lv_at hl 0 rfl) ?_
          refine rgetf C hd (by decide) cM0 rfl tgX4 0 (by decide) tw701 rfl dX4_goesHour_112 ?_
          refine lv_iconst (v := 1) hx hb dX4_goesHour_115 (by decide) ?_
          refine lv_dup2_11 hx hb dX4_goesHour_116 rfl rfl ?_
          replace he := g_some he
          obtain ⟨hi11, he⟩ := he
          refine riald C hd (by decide) cMa1 hi11 dX4_goesHour_117 ?_
          refine lv_iconst (v := 1) hx hb dX4_goesHour_118 (by decide) ?_
          refine lv_iadd hx hb dX4_goesHour_119 ?_
          replace he := g_some he
          obtain ⟨hi12, he⟩ := he
          replace he := bv_ex he
          obtain ⟨V13, e13, he⟩ := he
          refine riast (cell' := (cM G) V13) C hd (by decide) cMa1 hi12 (cMaw1 e13) (cM_ne e13) dX4_goesHour_120 (fun H locs hd => ?_)
          exact retVe (cf := (cM G)) C hr hlk hd he dX4_goesHour_121
        · replace he := i_f hc10 he
          refine lv_aload_n hx hb dX4_goesHour_100 rfl (lv_at hl 0 rfl) ?_
          refine lv_iload_n hx hb dX4_goesHour_101 rfl (lv_at hl 2 rfl) ?_
          replace he := b_some he
          obtain ⟨V14, h14, he⟩ := he
          refine kVV C hd hl.1 kw_X4_144 (by decide) cM0 rfl (c_X4_meetAt l G hJ h14) ⟨Nat.le_of_ble_eq_true rfl, Nat.le_of_ble_eq_true rfl⟩ rfl (rest := []) rfl (Nat.le_of_ble_eq_true rfl) dX4_goesHour_102 (fun H locs hd => ?_)
          refine lv_iinc (v := _ + 1) (lv' := [(2, .int _), (0, .ref _), (1, .int _)]) hx hb dX4_goesHour_105 hl (k := 2) rfl rfl (by decide) rfl (fun ls hl => ?_)
          refine lv_goto (tgt := 90) hx hb dX4_goesHour_108 (by decide) ?_
          exact ih90 _ _ _ _ _ _ (lv_sub hl [1, 2, 0] rfl) hd he
  have L49 : ∀ (fuel : Nat) (x1 : Int32) (x2 : Int32) (V : VV) (H : Heap) (locs : List Loc) (ls : Array Slot), lv_has ls 3 [(0, .ref (G.2.2 0)), (1, .int x1), (2, .int x2)] → Dy 11 G (cM G V) s H locs → f_X4_goesHour_L49 fuel x1 x2 V = some V' → W p l e (rmF 5 111) s m ([.ref (G.2.2 0)] : List Value).toArray below meth c H locs 0 0 (MQ below (QV 11 G (cM G V')) ([.ref (G.2.2 0)] : List Value).toArray s 0 0 (inA 11 G.2.2)) (F0 m 49 ls []) := by
    intro fuel
    induction fuel with
    | zero => intro x1 x2 V H locs ls hl hd he; simp [f_X4_goesHour_L49] at he
    | succ n ih49 =>
      intro x1 x2 V H locs ls hl hd he
      rw [f_X4_goesHour_L49] at he
      refine lv_iload_n hx hb dX4_goesHour_49 rfl (lv_at hl 2 rfl) ?_
      refine lv_aload_n hx hb dX4_goesHour_50 rfl (lv_at hl 0 rfl) ?_
      refine rgetf C hd (by decide) cM0 rfl tgX4 0 (by decide) tw701 rfl dX4_goesHour_51 ?_
      refine lv_iconst (v := 0) hx hb dX4_goesHour_54 (by decide) ?_
      replace he := g_some he
      obtain ⟨hi4, he⟩ := he
      refine riald C hd (by decide) cMa1 hi4 dX4_goesHour_55 ?_
      refine lv_icmp_ge (tgt := 88) hx hb dX4_goesHour_56 (by decide) (fun hc5 => ?_) (fun hc5 => ?_)
      · replace he := i_t hc5 he
        refine lv_iconst (v := 0) hx hb dX4_goesHour_88 (by decide) ?_
        refine lv_istore_n (lv' := [(2, .int _), (0, .ref _), (1, .int _)]) hx hb dX4_goesHour_89 rfl hl (by decide) rfl (fun ls hl => ?_)
        exact L90 200 _ _ _ _ _ _ (lv_sub hl [1, 2, 0] rfl) hd he
      · replace he := i_f hc5 he
        refine lv_aload_n hx hb dX4_goesHour_59 rfl (lv_at hl 0 rfl) ?_
        refine lv_iload_n hx hb dX4_goesHour_60 rfl (lv_at hl 2 rfl) ?_
        replace he := b_some he
        obtain ⟨⟨r15, V15⟩, h15, he⟩ := he
        refine kVZ C hd hl.1 kw_X4_95 (by decide) cM0 rfl (c_X4_isFree l G hJ h15) ⟨Nat.le_of_ble_eq_true rfl, Nat.le_of_ble_eq_true rfl⟩ rfl (rest := []) rfl (Nat.le_of_ble_eq_true rfl) dX4_goesHour_61 (fun H locs hz15 hd => ?_)
        refine lv_if_ne (tgt := 77) hx hb dX4_goesHour_64 (by decide) (fun hc16 => ?_) (fun hc16 => ?_)
        · replace he := i_f hc16 he
          refine lv_aload_n hx hb dX4_goesHour_77 rfl (lv_at hl 0 rfl) ?_
          refine lv_iload_n hx hb dX4_goesHour_78 rfl (lv_at hl 2 rfl) ?_
          replace he := b_some he
          obtain ⟨V17, h17, he⟩ := he
          refine kVV C hd hl.1 kw_X4_141 (by decide) cM0 rfl (c_X4_goes l G hJ h17) ⟨Nat.le_of_ble_eq_true rfl, Nat.le_of_ble_eq_true rfl⟩ rfl (rest := []) rfl (Nat.le_of_ble_eq_true rfl) dX4_goesHour_79 (fun H locs hd => ?_)
          refine lv_iinc (v := _ + 1) (lv' := [(2, .int _), (0, .ref _), (1, .int _)]) hx hb dX4_goesHour_82 hl (k := 2) rfl rfl (by decide) rfl (fun ls hl => ?_)
          refine lv_goto (tgt := 49) hx hb dX4_goesHour_85 (by decide) ?_
          exact ih49 _ _ _ _ _ _ (lv_sub hl [1, 2, 0] rfl) hd he
        · replace he := i_t hc16 he
          refine lv_aload_n hx hb dX4_goesHour_67 rfl (lv_at hl 0 rfl) ?_
          refine lv_iload_n hx hb dX4_goesHour_68 rfl (lv_at hl 2 rfl) ?_
          refine lv_iconst (v := 5) hx hb dX4_goesHour_69 (by decide) ?_
          replace he := b_some he
          obtain ⟨⟨r18, V18⟩, h18, he⟩ := he
          refine kVI C hd hl.1 kw_X4_58 (by decide) cM0 rfl (c_X4_its l G hJ h18) ⟨Nat.le_of_ble_eq_true rfl, Nat.le_of_ble_eq_true rfl⟩ rfl (rest := []) rfl (Nat.le_of_ble_eq_true rfl) dX4_goesHour_70 (fun H locs hd => ?_)
          refine lv_iload_n hx hb dX4_goesHour_73 rfl (lv_at hl 2 rfl) ?_
          refine lv_icmp_lt (tgt := 82) hx hb dX4_goesHour_74 (by decide) (fun hc19 => ?_) (fun hc19 => ?_)
          · replace he := i_t hc19 he
            refine lv_iinc (v := _ + 1) (lv' := [(2, .int _), (0, .ref _), (1, .int _)]) hx hb dX4_goesHour_82 hl (k := 2) rfl rfl (by decide) rfl (fun ls hl => ?_)
            refine lv_goto (tgt := 49) hx hb dX4_goesHour_85 (by decide) ?_
            exact ih49 _ _ _ _ _ _ (lv_sub hl [1, 2, 0] rfl) hd he
          · replace he := i_f hc19 he
            refine lv_aload_n hx hb dX4_goesHour_77 rfl (lv_at hl 0 rfl) ?_
            refine lv_iload_n hx hb dX4_goesHour_78 rfl (lv_at hl 2 rfl) ?_
            replace he := b_some he
            obtain ⟨V20, h20, he⟩ := he
            refine kVV C hd hl.1 kw_X4_141 (by decide) cM0 rfl (c_X4_goes l G hJ h20) ⟨Nat.le_of_ble_eq_true rfl, Nat.le_of_ble_eq_true rfl⟩ rfl (rest := []) rfl (Nat.le_of_ble_eq_true rfl) dX4_goesHour_79 (fun H locs hd => ?_)
            refine lv_iinc (v := _ + 1) (lv' := [(2, .int _), (0, .ref _), (1, .int _)]) hx hb dX4_goesHour_82 hl (k := 2) rfl rfl (by decide) rfl (fun ls hl => ?_)
            refine lv_goto (tgt := 49) hx hb dX4_goesHour_85 (by decide) ?_
            exact ih49 _ _ _ _ _ _ (lv_sub hl [1, 2, 0] rfl) hd he
  have L7 : ∀ (fuel : Nat) (x1 : Int32) (x2 : Int32) (V : VV) (H : Heap) (locs : List Loc) (ls : Array Slot), lv_has ls 3 [(0, .ref (G.2.2 0)), (1, .int x1), (2, .int x2)] → Dy 11 G (cM G V) s H locs → f_X4_goesHour_L7 fuel x1 x2 V = some V' → W p l e (rmF 5 111) s m ([.ref (G.2.2 0)] : List Value).toArray below meth c H locs 0 0 (MQ below (QV 11 G (cM G V')) ([.ref (G.2.2 0)] : List Value).toArray s 0 0 (inA 11 G.2.2)) (F0 m 7 ls []) := by
    intro fuel
    induction fuel with
    | zero => intro x1 x2 V H locs ls hl hd he; simp [f_X4_goesHour_L7] at he
    | succ n ih7 =>
      intro x1 x2 V H locs ls hl hd he
      rw [f_X4_goesHour_L7] at he
      refine lv_iload_n hx hb dX4_goesHour_7 rfl (lv_at hl 2 rfl) ?_
      refine lv_aload_n hx hb dX4_goesHour_8 rfl (lv_at hl 0 rfl) ?_
      refine rgetf C hd (by decide) cM0 rfl tgX4 0 (by decide) tw701 rfl dX4_goesHour_9 ?_
      refine lv_iconst (v := 0) hx hb dX4_goesHour_12 (by decide) ?_
      replace he := g_some he
      obtain ⟨hi2, he⟩ := he
      refine riald C hd (by decide) cMa1 hi2 dX4_goesHour_13 ?_
      refine lv_icmp_ge (tgt := 47) hx hb dX4_goesHour_14 (by decide) (fun hc3 => ?_) (fun hc3 => ?_)
      · replace he := i_t hc3 he
        refine lv_iconst (v := 0) hx hb dX4_goesHour_47 (by decide) ?_
        refine lv_istore_n (lv' := [(2, .int _), (0, .ref _), (1, .int _)]) hx hb dX4_goesHour_48 rfl hl (by decide) rfl (fun ls hl => ?_)
        exact L49 200 _ _ _ _ _ _ (lv_sub hl [1, 2, 0] rfl) hd he
      · replace he := i_f hc3 he
        refine lv_iload_n hx hb dX4_goesHour_17 rfl (lv_at hl 1 rfl) ?_
        refine lv_if_ne (tgt := 47) hx hb dX4_goesHour_18 (by decide) (fun hc21 => ?_) (fun hc21 => ?_)
        · replace he := i_f hc21 he
          refine lv_iconst (v := 0) hx hb dX4_goesHour_47 (by decide) ?_
          refine lv_istore_n (lv' := [(2, .int _), (0, .ref _), (1, .int _)]) hx hb dX4_goesHour_48 rfl hl (by decide) rfl (fun ls hl => ?_)
          exact L49 200 _ _ _ _ _ _ (lv_sub hl [1, 2, 0] rfl) hd he
        · replace he := i_t hc21 he
          refine lv_aload_n hx hb dX4_goesHour_21 rfl (lv_at hl 0 rfl) ?_
          refine lv_iload_n hx hb dX4_goesHour_22 rfl (lv_at hl 2 rfl) ?_
          refine lv_iconst (v := 1) hx hb dX4_goesHour_23 (by decide) ?_
          replace he := b_some he
          obtain ⟨⟨r22, V22⟩, h22, he⟩ := he
          refine kVI C hd hl.1 kw_X4_58 (by decide) cM0 rfl (c_X4_its l G hJ h22) ⟨Nat.le_of_ble_eq_true rfl, Nat.le_of_ble_eq_true rfl⟩ rfl (rest := []) rfl (Nat.le_of_ble_eq_true rfl) dX4_goesHour_24 (fun H locs hd => ?_)
          refine lv_aload_n hx hb dX4_goesHour_27 rfl (lv_at hl 0 rfl) ?_
          refine rgetf C hd (by decide) cM0 rfl tgX4 0 (by decide) tw701 rfl dX4_goesHour_28 ?_
          refine lv_iconst (v := 3) hx hb dX4_goesHour_31 (by decide) ?_
          replace he := g_some he
          obtain ⟨hi23, he⟩ := he
          refine riald C hd (by decide) cMa1 hi23 dX4_goesHour_32 ?_
          refine lv_icmp_eq (tgt := 41) hx hb dX4_goesHour_33 (by decide) (fun hc24 => ?_) (fun hc24 => ?_)
          · replace he := i_t hc24 he
            refine lv_iinc (v := _ + 1) (lv' := [(2, .int _), (0, .ref _), (1, .int _)]) hx hb dX4_goesHour_41 hl (k := 2) rfl rfl (by decide) rfl (fun ls hl => ?_)
            refine lv_goto (tgt := 7) hx hb dX4_goesHour_44 (by decide) ?_
            exact ih7 _ _ _ _ _ _ (lv_sub hl [1, 2, 0] rfl) hd he
          · replace he := i_f hc24 he
            refine lv_aload_n hx hb dX4_goesHour_36 rfl (lv_at hl 0 rfl) ?_
            refine lv_iload_n hx hb dX4_goesHour_37 rfl (lv_at hl 2 rfl) ?_
            replace he := b_some he
            obtain ⟨V25, h25, he⟩ := he
            refine kVV C hd hl.1 kw_X4_110 (by decide) cM0 rfl (c_X4_isFreed l G hJ h25) ⟨Nat.le_of_ble_eq_true rfl, Nat.le_of_ble_eq_true rfl⟩ rfl (rest := []) rfl (Nat.le_of_ble_eq_true rfl) dX4_goesHour_38 (fun H locs hd => ?_)
            refine lv_iinc (v := _ + 1) (lv' := [(2, .int _), (0, .ref _), (1, .int _)]) hx hb dX4_goesHour_41 hl (k := 2) rfl rfl (by decide) rfl (fun ls hl => ?_)
            refine lv_goto (tgt := 7) hx hb dX4_goesHour_44 (by decide) ?_
            exact ih7 _ _ _ _ _ _ (lv_sub hl [1, 2, 0] rfl) hd he
  unfold f_X4_goesHour at he
  refine lv_aload_n hx hb dX4_goesHour_0 rfl (lv_at hl 0 rfl) ?_
  replace he := b_some he
  obtain ⟨⟨r1, V1⟩, h1, he⟩ := he
  refine kVZ C hd hl.1 kw_X4_137 (by decide) cM0 rfl (c_X4_isFoggy l G hJ h1) ⟨Nat.le_of_ble_eq_true rfl, Nat.le_of_ble_eq_true rfl⟩ rfl (rest := []) rfl (Nat.le_of_ble_eq_true rfl) dX4_goesHour_1 (fun H locs hz1 hd => ?_)
  refine lv_istore_n (lv' := [(1, .int _), (0, .ref _)]) hx hb dX4_goesHour_4 rfl hl (by decide) rfl (fun ls hl => ?_)
  refine lv_iconst (v := 0) hx hb dX4_goesHour_5 (by decide) ?_
  refine lv_istore_n (lv' := [(2, .int _), (1, .int _), (0, .ref _)]) hx hb dX4_goesHour_6 rfl hl (by decide) rfl (fun ls hl => ?_)
  exact L7 200 _ _ _ _ _ _ (lv_sub hl [2, 1, 0] rfl) hd he
set_option maxRecDepth 100000 in
set_option maxHeartbeats 4000000 in
theorem c_X4_hoursGo (l : Launch) (G : Gd) (hJ : Inj 11 G.2.2) {a1 : Int32} {V V' : VV} (he : f_X4_hoursGo a1 V = some V') : MV l 11 G XM yX4_hoursGo cX4_hoursGo 3 6 133 [.ref (G.2.2 0), .int a1] (cM G V) (cM G V') := by
  refine walk_of (own := RX4) (by decide) rfl hJ (xs_M G) (Nat.le_of_ble_eq_true rfl) ?_
  intro p e s m below meth c C hr hlk ls hl hd
  have hl : lv_has ls 3 [(0, .ref (G.2.2 0)), (1, .int a1)] := hl
  obtain ⟨⟨hx, hb, hml, hown, hts⟩, -⟩ := id C
  have L2 : ∀ (fuel : Nat) (x1 : Int32) (x2 : Int32) (V : VV) (H : Heap) (locs : List Loc) (ls : Array Slot), lv_has ls 3 [(0, .ref (G.2.2 0)), (1, .int x1), (2, .int x2)] → Dy 11 G (cM G V) s H locs → f_X4_hoursGo_L2 fuel x1 x2 V = some V' → W p l e (rmF 6 133) s m ([.ref (G.2.2 0), .int a1] : List Value).toArray below meth c H locs 0 0 (MQ below (QV 11 G (cM G V')) ([.ref (G.2.2 0), .int a1] : List Value).toArray s 0 0 (inA 11 G.2.2)) (F0 m 2 ls []) := by
    intro fuel
    induction fuel with
    | zero => intro x1 x2 V H locs ls hl hd he; simp [f_X4_hoursGo_L2] at he
    | succ n ih2 =>
      intro x1 x2 V H locs ls hl hd he
      rw [f_X4_hoursGo_L2] at he
      refine lv_iload_n hx hb dX4_hoursGo_2 rfl (lv_at hl 2 rfl) ?_
      refine lv_iload_n hx hb dX4_hoursGo_3 rfl (lv_at hl 1 rfl) ?_
      refine lv_icmp_ge (tgt := 17) hx hb dX4_hoursGo_4 (by decide) (fun hc1 => ?_) (fun hc1 => ?_)
      · replace he := i_t hc1 he
        exact retVe (cf := (cM G)) C hr hlk hd he dX4_hoursGo_17
      · replace he := i_f hc1 he
        refine lv_aload_n hx hb dX4_hoursGo_7 rfl (lv_at hl 0 rfl) ?_
        replace he := b_some he
        obtain ⟨V2, h2, he⟩ := he
        refine kVV C hd hl.1 kw_X4_147 (by decide) cM0 rfl (c_X4_goesHour l G hJ h2) ⟨Nat.le_of_ble_eq_true rfl, Nat.le_of_ble_eq_true rfl⟩ rfl (rest := []) rfl (Nat.le_of_ble_eq_true rfl) dX4_hoursGo_8 (fun H locs hd => ?_)
        refine lv_iinc (v := _ + 1) (lv' := [(2, .int _), (0, .ref _), (1, .int _)]) hx hb dX4_hoursGo_11 hl (k := 2) rfl rfl (by decide) rfl (fun ls hl => ?_)
        refine lv_goto (tgt := 2) hx hb dX4_hoursGo_14 (by decide) ?_
        exact ih2 _ _ _ _ _ _ (lv_sub hl [1, 2, 0] rfl) hd he
  unfold f_X4_hoursGo at he
  refine lv_iconst (v := 0) hx hb dX4_hoursGo_0 (by decide) ?_
  refine lv_istore_n (lv' := [(2, .int _), (0, .ref _), (1, .int _)]) hx hb dX4_hoursGo_1 rfl hl (by decide) rfl (fun ls hl => ?_)
  exact L2 200 _ _ _ _ _ _ (lv_sub hl [1, 2, 0] rfl) hd he
set_option maxRecDepth 100000 in
set_option maxHeartbeats 4000000 in
theorem c_X4_hours (l : Launch) (G : Gd) (hJ : Inj 11 G.2.2) {a1 : Int32} {V V' : VV} {r : Int32} (he : f_X4_hours a1 V = some (r, V')) : MI l 11 G XM yX4_hours cX4_hours 2 7 155 [.ref (G.2.2 0), .int a1] (cM G V) (cM G V') r := by
  refine walk_of (own := RX4) (by decide) rfl hJ (xs_M G) (Nat.le_of_ble_eq_true rfl) ?_
  intro p e s m below meth c C hr hlk ls hl hd
  have hl : lv_has ls 2 [(0, .ref (G.2.2 0)), (1, .int a1)] := hl
  obtain ⟨⟨hx, hb, hml, hown, hts⟩, -⟩ := id C
  unfold f_X4_hours at he
  refine lv_iload_n hx hb dX4_hours_0 rfl (lv_at hl 1 rfl) ?_
  refine lv_i2l hx hb dX4_hours_1 rfl ?_
  refine lv_lconst (v := 1) hx hb dX4_hours_2 (by decide) ?_
  refine lv_ldc2 hx hb hown (hts _ tw891) dX4_hours_3 ?_
  replace he := b_some he
  obtain ⟨⟨r1, V1⟩, h1, he⟩ := he
  refine kSZ C hd hl.1 kw_X4_44 (c_X4_in l G hJ h1) ⟨Nat.le_of_ble_eq_true rfl, Nat.le_of_ble_eq_true rfl⟩ rfl (rest := []) rfl (Nat.le_of_ble_eq_true rfl) dX4_hours_6 (fun H locs hz1 hd => ?_)
  refine lv_if_ne (tgt := 19) hx hb dX4_hours_9 (by decide) (fun hc2 => ?_) (fun hc2 => ?_)
  · replace he := i_f hc2 he
    refine lv_aload_n hx hb dX4_hours_19 rfl (lv_at hl 0 rfl) ?_
    refine rgetf C hd (by decide) cM0 rfl tgX4 0 (by decide) tw701 rfl dX4_hours_20 ?_
    refine lv_iconst (v := 1) hx hb dX4_hours_23 (by decide) ?_
    replace he := g_some he
    obtain ⟨hi3, he⟩ := he
    refine riald C hd (by decide) cMa1 hi3 dX4_hours_24 ?_
    refine lv_iload_n hx hb dX4_hours_25 rfl (lv_at hl 1 rfl) ?_
    refine lv_iadd hx hb dX4_hours_26 ?_
    refine lv_ldc hx hb hown (hts _ tw892) dX4_hours_27 ?_
    refine lv_icmp_le (tgt := 39) hx hb dX4_hours_29 (by decide) (fun hc4 => ?_) (fun hc4 => ?_)
    · replace he := i_t hc4 he
      refine lv_aload_n hx hb dX4_hours_39 rfl (lv_at hl 0 rfl) ?_
      refine lv_iload_n hx hb dX4_hours_40 rfl (lv_at hl 1 rfl) ?_
      replace he := b_some he
      obtain ⟨V5, h5, he⟩ := he
      refine kVV C hd hl.1 kw_X4_153 (by decide) cM0 rfl (c_X4_hoursGo l G hJ h5) ⟨Nat.le_of_ble_eq_true rfl, Nat.le_of_ble_eq_true rfl⟩ rfl (rest := []) rfl (Nat.le_of_ble_eq_true rfl) dX4_hours_41 (fun H locs hd => ?_)
      refine lv_aload_n hx hb dX4_hours_44 rfl (lv_at hl 0 rfl) ?_
      replace he := b_some he
      obtain ⟨⟨r6, V6⟩, h6, he⟩ := he
      refine kVI C hd hl.1 kw_X4_124 (by decide) cM0 rfl (c_X4_thoseKept l G hJ h6) ⟨Nat.le_of_ble_eq_true rfl, Nat.le_of_ble_eq_true rfl⟩ rfl (rest := []) rfl (Nat.le_of_ble_eq_true rfl) dX4_hours_45 (fun H locs hd => ?_)
      exact retIe (cf := (cM G)) C hr hlk hd he dX4_hours_48
    · replace he := i_f hc4 he
      refine lv_aload_n hx hb dX4_hours_32 rfl (lv_at hl 0 rfl) ?_
      refine lv_ldc hx hb hown (hts _ tw859) dX4_hours_33 ?_
      replace he := b_some he
      obtain ⟨⟨r7, V7⟩, h7, he⟩ := he
      refine kVI C hd hl.1 kw_X4_66 (by decide) cM0 rfl (c_X4_finds l G hJ h7) ⟨Nat.le_of_ble_eq_true rfl, Nat.le_of_ble_eq_true rfl⟩ rfl (rest := []) rfl (Nat.le_of_ble_eq_true rfl) dX4_hours_35 (fun H locs hd => ?_)
      exact retIe (cf := (cM G)) C hr hlk hd he dX4_hours_38
  · replace he := i_t hc2 he
    refine lv_aload_n hx hb dX4_hours_12 rfl (lv_at hl 0 rfl) ?_
    refine lv_ldc hx hb hown (hts _ tw768) dX4_hours_13 ?_
    replace he := b_some he
    obtain ⟨⟨r8, V8⟩, h8, he⟩ := he
    refine kVI C hd hl.1 kw_X4_66 (by decide) cM0 rfl (c_X4_finds l G hJ h8) ⟨Nat.le_of_ble_eq_true rfl, Nat.le_of_ble_eq_true rfl⟩ rfl (rest := []) rfl (Nat.le_of_ble_eq_true rfl) dX4_hours_15 (fun H locs hd => ?_)
    exact retIe (cf := (cM G)) C hr hlk hd he dX4_hours_18
set_option maxRecDepth 100000 in
set_option maxHeartbeats 4000000 in
theorem c_X4_isGlad (l : Launch) (G : Gd) (hJ : Inj 11 G.2.2) {a1 : Int32} {V V' : VV} {r : Int32} (he : f_X4_isGlad a1 V = some (r, V')) : MZ l 11 G XM yX4_isGlad cX4_isGlad 2 3 64 [.ref (G.2.2 0), .int a1] (cM G V) (cM G V') r := by
  refine walk_of (own := RX4) (by decide) rfl hJ (xs_M G) (Nat.le_of_ble_eq_true rfl) ?_
  intro p e s m below meth c C hr hlk ls hl hd
  have hl : lv_has ls 2 [(0, .ref (G.2.2 0)), (1, .int a1)] := hl
  obtain ⟨⟨hx, hb, hml, hown, hts⟩, -⟩ := id C
  unfold f_X4_isGlad at he
  refine lv_aload_n hx hb dX4_isGlad_0 rfl (lv_at hl 0 rfl) ?_
  refine lv_iload_n hx hb dX4_isGlad_1 rfl (lv_at hl 1 rfl) ?_
  replace he := b_some he
  obtain ⟨⟨r1, V1⟩, h1, he⟩ := he
  refine kVZ C hd hl.1 kw_X4_95 (by decide) cM0 rfl (c_X4_isFree l G hJ h1) ⟨Nat.le_of_ble_eq_true rfl, Nat.le_of_ble_eq_true rfl⟩ rfl (rest := []) rfl (Nat.le_of_ble_eq_true rfl) dX4_isGlad_2 (fun H locs hz1 hd => ?_)
  refine lv_if_ne (tgt := 38) hx hb dX4_isGlad_5 (by decide) (fun hc2 => ?_) (fun hc2 => ?_)
  · replace he := i_f hc2 he
    refine lv_iconst (v := 0) hx hb dX4_isGlad_38 (by decide) ?_
    exact retZe (cf := (cM G)) C hr hlk hd rfl he dX4_isGlad_39
  · replace he := i_t hc2 he
    refine lv_aload_n hx hb dX4_isGlad_8 rfl (lv_at hl 0 rfl) ?_
    refine lv_iload_n hx hb dX4_isGlad_9 rfl (lv_at hl 1 rfl) ?_
    refine lv_iconst (v := 5) hx hb dX4_isGlad_10 (by decide) ?_
    replace he := b_some he
    obtain ⟨⟨r3, V3⟩, h3, he⟩ := he
    refine kVI C hd hl.1 kw_X4_58 (by decide) cM0 rfl (c_X4_its l G hJ h3) ⟨Nat.le_of_ble_eq_true rfl, Nat.le_of_ble_eq_true rfl⟩ rfl (rest := []) rfl (Nat.le_of_ble_eq_true rfl) dX4_isGlad_11 (fun H locs hd => ?_)
    refine lv_iload_n hx hb dX4_isGlad_14 rfl (lv_at hl 1 rfl) ?_
    refine lv_icmp_eq (tgt := 38) hx hb dX4_isGlad_15 (by decide) (fun hc4 => ?_) (fun hc4 => ?_)
    · replace he := i_t hc4 he
      refine lv_iconst (v := 0) hx hb dX4_isGlad_38 (by decide) ?_
      exact retZe (cf := (cM G)) C hr hlk hd rfl he dX4_isGlad_39
    · replace he := i_f hc4 he
      refine lv_aload_n hx hb dX4_isGlad_18 rfl (lv_at hl 0 rfl) ?_
      refine lv_iload_n hx hb dX4_isGlad_19 rfl (lv_at hl 1 rfl) ?_
      refine lv_bipush (v := 6) hx hb dX4_isGlad_20 (by decide) ?_
      replace he := b_some he
      obtain ⟨⟨r5, V5⟩, h5, he⟩ := he
      refine kVI C hd hl.1 kw_X4_58 (by decide) cM0 rfl (c_X4_its l G hJ h5) ⟨Nat.le_of_ble_eq_true rfl, Nat.le_of_ble_eq_true rfl⟩ rfl (rest := []) rfl (Nat.le_of_ble_eq_true rfl) dX4_isGlad_22 (fun H locs hd => ?_)
      refine lv_aload_n hx hb dX4_isGlad_25 rfl (lv_at hl 0 rfl) ?_
      refine lv_iload_n hx hb dX4_isGlad_26 rfl (lv_at hl 1 rfl) ?_
      refine lv_iconst (v := 4) hx hb dX4_isGlad_27 (by decide) ?_
      replace he := b_some he
      obtain ⟨⟨r6, V6⟩, h6, he⟩ := he
      refine kVI C hd hl.1 kw_X4_58 (by decide) cM0 rfl (c_X4_its l G hJ h6) ⟨Nat.le_of_ble_eq_true rfl, Nat.le_of_ble_eq_true rfl⟩ rfl (rest := [.int _]) rfl (Nat.le_of_ble_eq_true rfl) dX4_isGlad_28 (fun H locs hd => ?_)
      refine lv_icmp_ne (tgt := 38) hx hb dX4_isGlad_31 (by decide) (fun hc7 => ?_) (fun hc7 => ?_)
      · replace he := i_f hc7 he
        refine lv_iconst (v := 0) hx hb dX4_isGlad_38 (by decide) ?_
        exact retZe (cf := (cM G)) C hr hlk hd rfl he dX4_isGlad_39
      · replace he := i_t hc7 he
        refine lv_iconst (v := 1) hx hb dX4_isGlad_34 (by decide) ?_
        refine lv_goto (tgt := 39) hx hb dX4_isGlad_35 (by decide) ?_
        exact retZe (cf := (cM G)) C hr hlk hd rfl he dX4_isGlad_39
set_option maxRecDepth 100000 in
set_option maxHeartbeats 4000000 in
theorem c_X4_thoseGlad (l : Launch) (G : Gd) (hJ : Inj 11 G.2.2) {V V' : VV} {r : Int32} (he : f_X4_thoseGlad V = some (r, V')) : MI l 11 G XM yX4_thoseGlad cX4_thoseGlad 3 4 85 [.ref (G.2.2 0)] (cM G V) (cM G V') r := by
  refine walk_of (own := RX4) (by decide) rfl hJ (xs_M G) (Nat.le_of_ble_eq_true rfl) ?_
  intro p e s m below meth c C hr hlk ls hl hd
  have hl : lv_has ls 3 [(0, .ref (G.2.2 0))] := hl
  obtain ⟨⟨hx, hb, hml, hown, hts⟩, -⟩ := id C
  have L4 : ∀ (fuel : Nat) (x1 : Int32) (x2 : Int32) (V : VV) (H : Heap) (locs : List Loc) (ls : Array Slot), lv_has ls 3 [(0, .ref (G.2.2 0)), (1, .int x1), (2, .int x2)] → Dy 11 G (cM G V) s H locs → f_X4_thoseGlad_L4 fuel x1 x2 V = some (r, V') → W p l e (rmF 4 85) s m ([.ref (G.2.2 0)] : List Value).toArray below meth c H locs 0 0 (MQ below (QI 11 G (cM G V') (fun r' => r' = r)) ([.ref (G.2.2 0)] : List Value).toArray s 0 0 (inA 11 G.2.2)) (F0 m 4 ls []) := by
    intro fuel
    induction fuel with
    | zero => intro x1 x2 V H locs ls hl hd he; simp [f_X4_thoseGlad_L4] at he
    | succ n ih4 =>
      intro x1 x2 V H locs ls hl hd he
      rw [f_X4_thoseGlad_L4] at he
      refine lv_iload_n hx hb dX4_thoseGlad_4 rfl (lv_at hl 2 rfl) ?_
      refine lv_aload_n hx hb dX4_thoseGlad_5 rfl (lv_at hl 0 rfl) ?_
      refine rgetf C hd (by decide) cM0 rfl tgX4 0 (by decide) tw701 rfl dX4_thoseGlad_6 ?_
      refine lv_iconst (v := 0) hx hb dX4_thoseGlad_9 (by decide) ?_
      replace he := g_some he
      obtain ⟨hi1, he⟩ := he
      refine riald C hd (by decide) cMa1 hi1 dX4_thoseGlad_10 ?_
      refine lv_icmp_ge (tgt := 38) hx hb dX4_thoseGlad_11 (by decide) (fun hc2 => ?_) (fun hc2 => ?_)
      · replace he := i_t hc2 he
        refine lv_iload_n hx hb dX4_thoseGlad_38 rfl (lv_at hl 1 rfl) ?_
        exact retIe (cf := (cM G)) C hr hlk hd he dX4_thoseGlad_39
      · replace he := i_f hc2 he
        refine lv_iload_n hx hb dX4_thoseGlad_14 rfl (lv_at hl 1 rfl) ?_
        refine lv_aload_n hx hb dX4_thoseGlad_15 rfl (lv_at hl 0 rfl) ?_
        refine lv_iload_n hx hb dX4_thoseGlad_16 rfl (lv_at hl 2 rfl) ?_
        replace he := b_some he
        obtain ⟨⟨r3, V3⟩, h3, he⟩ := he
        refine kVZ C hd hl.1 kw_X4_156 (by decide) cM0 rfl (c_X4_isGlad l G hJ h3) ⟨Nat.le_of_ble_eq_true rfl, Nat.le_of_ble_eq_true rfl⟩ rfl (rest := [.int _]) rfl (Nat.le_of_ble_eq_true rfl) dX4_thoseGlad_17 (fun H locs hz3 hd => ?_)
        refine lv_if_eq (tgt := 29) hx hb dX4_thoseGlad_20 (by decide) (fun hc4 => ?_) (fun hc4 => ?_)
        · replace he := i_t hc4 he
          refine lv_iconst (v := 0) hx hb dX4_thoseGlad_29 (by decide) ?_
          refine lv_ior hx hb dX4_thoseGlad_30 ?_
          refine lv_istore_n (lv' := [(1, .int _), (0, .ref _), (2, .int _)]) hx hb dX4_thoseGlad_31 rfl hl (by decide) rfl (fun ls hl => ?_)
          refine lv_iinc (v := _ + 1) (lv' := [(2, .int _), (1, .int _), (0, .ref _)]) hx hb dX4_thoseGlad_32 hl (k := 2) rfl rfl (by decide) rfl (fun ls hl => ?_)
          refine lv_goto (tgt := 4) hx hb dX4_thoseGlad_35 (by decide) ?_
          exact ih4 _ _ _ _ _ _ (lv_sub hl [2, 1, 0] rfl) hd he
        · replace he := i_f hc4 he
          refine lv_iconst (v := 1) hx hb dX4_thoseGlad_23 (by decide) ?_
          refine lv_iload_n hx hb dX4_thoseGlad_24 rfl (lv_at hl 2 rfl) ?_
          refine lv_ishl hx hb dX4_thoseGlad_25 ?_
          refine lv_goto (tgt := 30) hx hb dX4_thoseGlad_26 (by decide) ?_
          refine lv_ior hx hb dX4_thoseGlad_30 ?_
          refine lv_istore_n (lv' := [(1, .int _), (0, .ref _), (2, .int _)]) hx hb dX4_thoseGlad_31 rfl hl (by decide) rfl (fun ls hl => ?_)
          refine lv_iinc (v := _ + 1) (lv' := [(2, .int _), (1, .int _), (0, .ref _)]) hx hb dX4_thoseGlad_32 hl (k := 2) rfl rfl (by decide) rfl (fun ls hl => ?_)
          refine lv_goto (tgt := 4) hx hb dX4_thoseGlad_35 (by decide) ?_
          exact ih4 _ _ _ _ _ _ (lv_sub hl [2, 1, 0] rfl) hd he
  unfold f_X4_thoseGlad at he
  refine lv_iconst (v := 0) hx hb dX4_thoseGlad_0 (by decide) ?_
  refine lv_istore_n (lv' := [(1, .int _), (0, .ref _)]) hx hb dX4_thoseGlad_1 rfl hl (by decide) rfl (fun ls hl => ?_)
  refine lv_iconst (v := 0) hx hb dX4_thoseGlad_2 (by decide) ?_
  refine lv_istore_n (lv' := [(2, .int _), (1, .int _), (0, .ref _)]) hx hb dX4_thoseGlad_3 rfl hl (by decide) rfl (fun ls hl => ?_)
  exact L4 200 _ _ _ _ _ _ (lv_sub hl [2, 1, 0] rfl) hd he
set_option maxRecDepth 100000 in
set_option maxHeartbeats 4000000 in
theorem c_X4_now (l : Launch) (G : Gd) (hJ : Inj 11 G.2.2) {a1 : Int32} {V V' : VV} {r : Int32} (he : f_X4_now a1 V = some (r, V')) : MI l 11 G XM yX4_now cX4_now 2 5 107 [.ref (G.2.2 0), .int a1] (cM G V) (cM G V') r := by
  refine walk_of (own := RX4) (by decide) rfl hJ (xs_M G) (Nat.le_of_ble_eq_true rfl) ?_
  intro p e s m below meth c C hr hlk ls hl hd
  have hl : lv_has ls 2 [(0, .ref (G.2.2 0)), (1, .int a1)] := hl
  obtain ⟨⟨hx, hb, hml, hown, hts⟩, -⟩ := id C
  unfold f_X4_now at he
  refine lv_iload_n hx hb dX4_now_0 rfl (lv_at hl 1 rfl) ?_
  replace he := ite_cases he
  rcases he with ⟨hc1, he⟩ | ⟨hc1, he⟩
  · refine rtabIn (k := 0) (off := 39) (tgt := 40) hx hb dX4_now_1 hc1 (by decide) (by decide) rfl (by decide) ?_
    refine lv_aload_n hx hb dX4_now_40 rfl (lv_at hl 0 rfl) ?_
    refine rgetf C hd (by decide) cM0 rfl tgX4 0 (by decide) tw701 rfl dX4_now_41 ?_
    refine lv_iconst (v := 1) hx hb dX4_now_44 (by decide) ?_
    replace he := g_some he
    obtain ⟨hi2, he⟩ := he
    refine riald C hd (by decide) cMa1 hi2 dX4_now_45 ?_
    exact retIe (cf := (cM G)) C hr hlk hd he dX4_now_46
  · replace he := ite_cases he
    rcases he with ⟨hc3, he⟩ | ⟨hc3, he⟩
    · refine rtabIn (k := 1) (off := 46) (tgt := 47) hx hb dX4_now_1 hc3 (by decide) (by decide) rfl (by decide) ?_
      refine lv_aload_n hx hb dX4_now_47 rfl (lv_at hl 0 rfl) ?_
      refine rgetf C hd (by decide) cM0 rfl tgX4 0 (by decide) tw701 rfl dX4_now_48 ?_
      refine lv_iconst (v := 2) hx hb dX4_now_51 (by decide) ?_
      replace he := g_some he
      obtain ⟨hi4, he⟩ := he
      refine riald C hd (by decide) cMa1 hi4 dX4_now_52 ?_
      exact retIe (cf := (cM G)) C hr hlk hd he dX4_now_53
    · replace he := ite_cases he
      rcases he with ⟨hc5, he⟩ | ⟨hc5, he⟩
      · refine rtabIn (k := 2) (off := 53) (tgt := 54) hx hb dX4_now_1 hc5 (by decide) (by decide) rfl (by decide) ?_
        refine lv_aload_n hx hb dX4_now_54 rfl (lv_at hl 0 rfl) ?_
        replace he := b_some he
        obtain ⟨⟨r6, V6⟩, h6, he⟩ := he
        refine kVZ C hd hl.1 kw_X4_137 (by decide) cM0 rfl (c_X4_isFoggy l G hJ h6) ⟨Nat.le_of_ble_eq_true rfl, Nat.le_of_ble_eq_true rfl⟩ rfl (rest := []) rfl (Nat.le_of_ble_eq_true rfl) dX4_now_55 (fun H locs hz6 hd => ?_)
        refine lv_if_eq (tgt := 65) hx hb dX4_now_58 (by decide) (fun hc7 => ?_) (fun hc7 => ?_)
        · replace he := i_t hc7 he
          refine lv_iconst (v := 0) hx hb dX4_now_65 (by decide) ?_
          exact retIe (cf := (cM G)) C hr hlk hd he dX4_now_66
        · replace he := i_f hc7 he
          refine lv_iconst (v := 1) hx hb dX4_now_61 (by decide) ?_
          refine lv_goto (tgt := 66) hx hb dX4_now_62 (by decide) ?_
          exact retIe (cf := (cM G)) C hr hlk hd he dX4_now_66
      · replace he := ite_cases he
        rcases he with ⟨hc8, he⟩ | ⟨hc8, he⟩
        · refine rtabIn (k := 3) (off := 66) (tgt := 67) hx hb dX4_now_1 hc8 (by decide) (by decide) rfl (by decide) ?_
          refine lv_aload_n hx hb dX4_now_67 rfl (lv_at hl 0 rfl) ?_
          replace he := b_some he
          obtain ⟨⟨r9, V9⟩, h9, he⟩ := he
          refine kVI C hd hl.1 kw_X4_124 (by decide) cM0 rfl (c_X4_thoseKept l G hJ h9) ⟨Nat.le_of_ble_eq_true rfl, Nat.le_of_ble_eq_true rfl⟩ rfl (rest := []) rfl (Nat.le_of_ble_eq_true rfl) dX4_now_68 (fun H locs hd => ?_)
          exact retIe (cf := (cM G)) C hr hlk hd he dX4_now_71
        · replace he := ite_cases he
          rcases he with ⟨hc10, he⟩ | ⟨hc10, he⟩
          · refine rtabIn (k := 4) (off := 71) (tgt := 72) hx hb dX4_now_1 hc10 (by decide) (by decide) rfl (by decide) ?_
            refine lv_aload_n hx hb dX4_now_72 rfl (lv_at hl 0 rfl) ?_
            replace he := b_some he
            obtain ⟨⟨r11, V11⟩, h11, he⟩ := he
            refine kVI C hd hl.1 kw_X4_159 (by decide) cM0 rfl (c_X4_thoseGlad l G hJ h11) ⟨Nat.le_of_ble_eq_true rfl, Nat.le_of_ble_eq_true rfl⟩ rfl (rest := []) rfl (Nat.le_of_ble_eq_true rfl) dX4_now_73 (fun H locs hd => ?_)
            exact retIe (cf := (cM G)) C hr hlk hd he dX4_now_76
          · replace he := ite_cases he
            rcases he with ⟨hc12, he⟩ | ⟨hc12, he⟩
            · refine rtabIn (k := 5) (off := 76) (tgt := 77) hx hb dX4_now_1 hc12 (by decide) (by decide) rfl (by decide) ?_
              refine lv_aload_n hx hb dX4_now_77 rfl (lv_at hl 0 rfl) ?_
              refine rgetf C hd (by decide) cM0 rfl tgX4 0 (by decide) tw701 rfl dX4_now_78 ?_
              refine lv_iconst (v := 3) hx hb dX4_now_81 (by decide) ?_
              replace he := g_some he
              obtain ⟨hi13, he⟩ := he
              refine riald C hd (by decide) cMa1 hi13 dX4_now_82 ?_
              exact retIe (cf := (cM G)) C hr hlk hd he dX4_now_83
            · refine lv_tableOut (tgt := 84) hx hb dX4_now_1 (tbl_out (fun k k1 k2 => by rcases (show k = 0 ∨ k = 1 ∨ k = 2 ∨ k = 3 ∨ k = 4 ∨ k = 5 by omega) with rfl | rfl | rfl | rfl | rfl | rfl <;> first | exact hc1 | exact hc3 | exact hc5 | exact hc8 | exact hc10 | exact hc12)) (by decide) ?_
              refine lv_aload_n hx hb dX4_now_84 rfl (lv_at hl 0 rfl) ?_
              refine lv_ldc hx hb hown (hts _ tw768) dX4_now_85 ?_
              replace he := b_some he
              obtain ⟨⟨r14, V14⟩, h14, he⟩ := he
              refine kVI C hd hl.1 kw_X4_66 (by decide) cM0 rfl (c_X4_finds l G hJ h14) ⟨Nat.le_of_ble_eq_true rfl, Nat.le_of_ble_eq_true rfl⟩ rfl (rest := []) rfl (Nat.le_of_ble_eq_true rfl) dX4_now_87 (fun H locs hd => ?_)
              exact retIe (cf := (cM G)) C hr hlk hd he dX4_now_90
set_option maxRecDepth 100000 in
set_option maxHeartbeats 4000000 in
theorem c_X4_on (l : Launch) (G : Gd) (hJ : Inj 11 G.2.2) {a1 : Int32} {a2 : Int32} {a3 : Int32} {V V' : VV} {r : Int32} (he : f_X4_on a1 a2 a3 V = some (r, V')) : MI l 11 G XM yX4_on cX4_on 4 7 155 [.ref (G.2.2 0), .int a1, .int a2, .int a3] (cM G V) (cM G V') r := by
  refine walk_of (own := RX4) (by decide) rfl hJ (xs_M G) (Nat.le_of_ble_eq_true rfl) ?_
  intro p e s m below meth c C hr hlk ls hl hd
  have hl : lv_has ls 4 [(0, .ref (G.2.2 0)), (1, .int a1), (2, .int a2), (3, .int a3)] := hl
  obtain ⟨⟨hx, hb, hml, hown, hts⟩, -⟩ := id C
  unfold f_X4_on at he
  refine lv_aload_n hx hb dX4_on_0 rfl (lv_at hl 0 rfl) ?_
  refine lv_iload_n hx hb dX4_on_1 rfl (lv_at hl 1 rfl) ?_
  replace he := b_some he
  obtain ⟨⟨r1, V1⟩, h1, he⟩ := he
  refine kVZ C hd hl.1 kw_X4_48 (by decide) cM0 rfl (c_X4_isWalker l G hJ h1) ⟨Nat.le_of_ble_eq_true rfl, Nat.le_of_ble_eq_true rfl⟩ rfl (rest := []) rfl (Nat.le_of_ble_eq_true rfl) dX4_on_2 (fun H locs hz1 hd => ?_)
  refine lv_if_eq (tgt := 32) hx hb dX4_on_5 (by decide) (fun hc2 => ?_) (fun hc2 => ?_)
  · replace he := i_t hc2 he
    refine lv_aload_n hx hb dX4_on_32 rfl (lv_at hl 0 rfl) ?_
    refine lv_ldc hx hb hown (hts _ tw768) dX4_on_33 ?_
    replace he := b_some he
    obtain ⟨⟨r3, V3⟩, h3, he⟩ := he
    refine kVI C hd hl.1 kw_X4_66 (by decide) cM0 rfl (c_X4_finds l G hJ h3) ⟨Nat.le_of_ble_eq_true rfl, Nat.le_of_ble_eq_true rfl⟩ rfl (rest := []) rfl (Nat.le_of_ble_eq_true rfl) dX4_on_35 (fun H locs hd => ?_)
    exact retIe (cf := (cM G)) C hr hlk hd he dX4_on_38
  · replace he := i_f hc2 he
    refine lv_iload_n hx hb dX4_on_8 rfl (lv_at hl 2 rfl) ?_
    refine lv_i2l hx hb dX4_on_9 rfl ?_
    refine lv_lconst (v := 0) hx hb dX4_on_10 (by decide) ?_
    refine lv_ldc2 hx hb hown (hts _ tw891) dX4_on_11 ?_
    replace he := b_some he
    obtain ⟨⟨r4, V4⟩, h4, he⟩ := he
    refine kSZ C hd hl.1 kw_X4_44 (c_X4_in l G hJ h4) ⟨Nat.le_of_ble_eq_true rfl, Nat.le_of_ble_eq_true rfl⟩ rfl (rest := []) rfl (Nat.le_of_ble_eq_true rfl) dX4_on_14 (fun H locs hz4 hd => ?_)
    refine lv_if_eq (tgt := 32) hx hb dX4_on_17 (by decide) (fun hc5 => ?_) (fun hc5 => ?_)
    · replace he := i_t hc5 he
      refine lv_aload_n hx hb dX4_on_32 rfl (lv_at hl 0 rfl) ?_
      refine lv_ldc hx hb hown (hts _ tw768) dX4_on_33 ?_
      replace he := b_some he
      obtain ⟨⟨r6, V6⟩, h6, he⟩ := he
      refine kVI C hd hl.1 kw_X4_66 (by decide) cM0 rfl (c_X4_finds l G hJ h6) ⟨Nat.le_of_ble_eq_true rfl, Nat.le_of_ble_eq_true rfl⟩ rfl (rest := []) rfl (Nat.le_of_ble_eq_true rfl) dX4_on_35 (fun H locs hd => ?_)
      exact retIe (cf := (cM G)) C hr hlk hd he dX4_on_38
    · replace he := i_f hc5 he
      refine lv_iload_n hx hb dX4_on_20 rfl (lv_at hl 3 rfl) ?_
      refine lv_i2l hx hb dX4_on_21 rfl ?_
      refine lv_lconst (v := 0) hx hb dX4_on_22 (by decide) ?_
      refine lv_ldc2 hx hb hown (hts _ tw936) dX4_on_23 ?_
      replace he := b_some he
      obtain ⟨⟨r7, V7⟩, h7, he⟩ := he
      refine kSZ C hd hl.1 kw_X4_44 (c_X4_in l G hJ h7) ⟨Nat.le_of_ble_eq_true rfl, Nat.le_of_ble_eq_true rfl⟩ rfl (rest := []) rfl (Nat.le_of_ble_eq_true rfl) dX4_on_26 (fun H locs hz7 hd => ?_)
      refine lv_if_ne (tgt := 39) hx hb dX4_on_29 (by decide) (fun hc8 => ?_) (fun hc8 => ?_)
      · replace he := i_f hc8 he
        refine lv_aload_n hx hb dX4_on_39 rfl (lv_at hl 0 rfl) ?_
        replace he := b_some he
        obtain ⟨V9, h9, he⟩ := he
        refine kVV C hd hl.1 kw_X4_164 (by decide) cM0 rfl (c_X4_laysAside l G hJ h9) ⟨Nat.le_of_ble_eq_true rfl, Nat.le_of_ble_eq_true rfl⟩ rfl (rest := []) rfl (Nat.le_of_ble_eq_true rfl) dX4_on_40 (fun H locs hd => ?_)
        refine lv_aload_n hx hb dX4_on_43 rfl (lv_at hl 0 rfl) ?_
        refine lv_iload_n hx hb dX4_on_44 rfl (lv_at hl 2 rfl) ?_
        replace he := b_some he
        obtain ⟨V10, h10, he⟩ := he
        refine kVV C hd hl.1 kw_X4_153 (by decide) cM0 rfl (c_X4_hoursGo l G hJ h10) ⟨Nat.le_of_ble_eq_true rfl, Nat.le_of_ble_eq_true rfl⟩ rfl (rest := []) rfl (Nat.le_of_ble_eq_true rfl) dX4_on_45 (fun H locs hd => ?_)
        refine lv_aload_n hx hb dX4_on_48 rfl (lv_at hl 0 rfl) ?_
        refine lv_aload_n hx hb dX4_on_49 rfl (lv_at hl 0 rfl) ?_
        refine lv_iload_n hx hb dX4_on_50 rfl (lv_at hl 1 rfl) ?_
        refine lv_iload_n hx hb dX4_on_51 rfl (lv_at hl 3 rfl) ?_
        refine lv_if_ne (tgt := 59) hx hb dX4_on_52 (by decide) (fun hc11 => ?_) (fun hc11 => ?_)
        · replace he := i_f hc11 he
          refine lv_iload_n hx hb dX4_on_59 rfl (lv_at hl 3 rfl) ?_
          refine lv_iconst (v := 1) hx hb dX4_on_60 (by decide) ?_
          refine lv_icmp_ne (tgt := 68) hx hb dX4_on_61 (by decide) (fun hc12 => ?_) (fun hc12 => ?_)
          · replace he := i_f hc12 he
            refine lv_bipush (v := 6) hx hb dX4_on_68 (by decide) ?_
            replace he := b_some he
            obtain ⟨⟨r13, V13⟩, h13, he⟩ := he
            refine kVI C hd hl.1 kw_X4_58 (by decide) cM0 rfl (c_X4_its l G hJ h13) ⟨Nat.le_of_ble_eq_true rfl, Nat.le_of_ble_eq_true rfl⟩ rfl (rest := [.ref _]) rfl (Nat.le_of_ble_eq_true rfl) dX4_on_70 (fun H locs hd => ?_)
            replace he := b_some he
            obtain ⟨⟨r14, V14⟩, h14, he⟩ := he
            refine kVI C hd hl.1 kw_X4_167 (by decide) cM0 rfl (c_X4_takesBack l G hJ h14) ⟨Nat.le_of_ble_eq_true rfl, Nat.le_of_ble_eq_true rfl⟩ rfl (rest := []) rfl (Nat.le_of_ble_eq_true rfl) dX4_on_73 (fun H locs hd => ?_)
            exact retIe (cf := (cM G)) C hr hlk hd he dX4_on_76
          · replace he := i_t hc12 he
            refine lv_iconst (v := 5) hx hb dX4_on_64 (by decide) ?_
            refine lv_goto (tgt := 70) hx hb dX4_on_65 (by decide) ?_
            replace he := b_some he
            obtain ⟨⟨r15, V15⟩, h15, he⟩ := he
            refine kVI C hd hl.1 kw_X4_58 (by decide) cM0 rfl (c_X4_its l G hJ h15) ⟨Nat.le_of_ble_eq_true rfl, Nat.le_of_ble_eq_true rfl⟩ rfl (rest := [.ref _]) rfl (Nat.le_of_ble_eq_true rfl) dX4_on_70 (fun H locs hd => ?_)
            replace he := b_some he
            obtain ⟨⟨r16, V16⟩, h16, he⟩ := he
            refine kVI C hd hl.1 kw_X4_167 (by decide) cM0 rfl (c_X4_takesBack l G hJ h16) ⟨Nat.le_of_ble_eq_true rfl, Nat.le_of_ble_eq_true rfl⟩ rfl (rest := []) rfl (Nat.le_of_ble_eq_true rfl) dX4_on_73 (fun H locs hd => ?_)
            exact retIe (cf := (cM G)) C hr hlk hd he dX4_on_76
        · replace he := i_t hc11 he
          refine lv_iconst (v := 1) hx hb dX4_on_55 (by decide) ?_
          refine lv_goto (tgt := 70) hx hb dX4_on_56 (by decide) ?_
          replace he := b_some he
          obtain ⟨⟨r17, V17⟩, h17, he⟩ := he
          refine kVI C hd hl.1 kw_X4_58 (by decide) cM0 rfl (c_X4_its l G hJ h17) ⟨Nat.le_of_ble_eq_true rfl, Nat.le_of_ble_eq_true rfl⟩ rfl (rest := [.ref _]) rfl (Nat.le_of_ble_eq_true rfl) dX4_on_70 (fun H locs hd => ?_)
          replace he := b_some he
          obtain ⟨⟨r18, V18⟩, h18, he⟩ := he
          refine kVI C hd hl.1 kw_X4_167 (by decide) cM0 rfl (c_X4_takesBack l G hJ h18) ⟨Nat.le_of_ble_eq_true rfl, Nat.le_of_ble_eq_true rfl⟩ rfl (rest := []) rfl (Nat.le_of_ble_eq_true rfl) dX4_on_73 (fun H locs hd => ?_)
          exact retIe (cf := (cM G)) C hr hlk hd he dX4_on_76
      · replace he := i_t hc8 he
        refine lv_aload_n hx hb dX4_on_32 rfl (lv_at hl 0 rfl) ?_
        refine lv_ldc hx hb hown (hts _ tw768) dX4_on_33 ?_
        replace he := b_some he
        obtain ⟨⟨r19, V19⟩, h19, he⟩ := he
        refine kVI C hd hl.1 kw_X4_66 (by decide) cM0 rfl (c_X4_finds l G hJ h19) ⟨Nat.le_of_ble_eq_true rfl, Nat.le_of_ble_eq_true rfl⟩ rfl (rest := []) rfl (Nat.le_of_ble_eq_true rfl) dX4_on_35 (fun H locs hd => ?_)
        exact retIe (cf := (cM G)) C hr hlk hd he dX4_on_38
