set_option maxRecDepth 100000 in
set_option maxHeartbeats 4000000 in
theorem c_X3_meet (l : Launch) (G : Gd) (ks : Ks) (hJ : Inj 37 G.2.2) {a1 : Int32} {a2 : Int32} {V V' : VV} {r : Int32} (he : f_X3_meet a1 a2 V = some (r, V')) : MI l 37 G (XC G ks) yX3_meet cX3_meet 3 6 135 [.ref (G.2.2 24), .int a1, .int a2] (cC G V) (cC G V') r := by
  refine walk_of (own := RX3) (by decide) rfl hJ (xs_C G ks) (Nat.le_of_ble_eq_true rfl) ?_
  intro p e s m below meth c C hr hlk ls hl hd
  have hl : lv_has ls 3 [(0, .ref (G.2.2 24)), (1, .int a1), (2, .int a2)] := hl
  obtain ⟨⟨hx, hb, hml, hown, hts⟩, -⟩ := id C
  unfold f_X3_meet at he
  refine lv_aload_n hx hb dX3_meet_0 rfl (lv_at hl 0 rfl) ?_
  refine lv_iload_n hx hb dX3_meet_1 rfl (lv_at hl 1 rfl) ?_
  refine lv_iload_n hx hb dX3_meet_2 rfl (lv_at hl 2 rfl) ?_
  replace he := b_some he
  obtain ⟨⟨r1, V1⟩, h1, he⟩ := he
  refine kVZ C hd hl.1 kw_X3_117 (by decide) cC24 rfl (c_X3_areTwo l G ks hJ h1) ⟨Nat.le_of_ble_eq_true rfl, Nat.le_of_ble_eq_true rfl⟩ rfl (rest := []) rfl (Nat.le_of_ble_eq_true rfl) dX3_meet_3 (fun H locs hz1 hd => ?_)
  refine lv_if_ne (tgt := 16) hx hb dX3_meet_6 (by decide) (fun hc2 => ?_) (fun hc2 => ?_)
  · replace he := i_f hc2 he
    refine lv_aload_n hx hb dX3_meet_16 rfl (lv_at hl 0 rfl) ?_
    refine lv_aload_n hx hb dX3_meet_17 rfl (lv_at hl 0 rfl) ?_
    refine lv_iconst (v := 0) hx hb dX3_meet_18 (by decide) ?_
    refine lv_iload_n hx hb dX3_meet_19 rfl (lv_at hl 1 rfl) ?_
    refine lv_iload_n hx hb dX3_meet_20 rfl (lv_at hl 2 rfl) ?_
    replace he := b_some he
    obtain ⟨⟨r3, V3⟩, h3, he⟩ := he
    refine kVI C hd hl.1 kw_X3_155 (by decide) cC24 rfl (c_X3_firstFromNow l G ks hJ h3) ⟨Nat.le_of_ble_eq_true rfl, Nat.le_of_ble_eq_true rfl⟩ rfl (rest := [.ref _]) rfl (Nat.le_of_ble_eq_true rfl) dX3_meet_21 (fun H locs hd => ?_)
    replace he := b_some he
    obtain ⟨⟨r4, V4⟩, h4, he⟩ := he
    refine kVI C hd hl.1 kw_X3_159 (by decide) cC24 rfl (c_X3_orNone l G ks hJ h4) ⟨Nat.le_of_ble_eq_true rfl, Nat.le_of_ble_eq_true rfl⟩ rfl (rest := []) rfl (Nat.le_of_ble_eq_true rfl) dX3_meet_24 (fun H locs hd => ?_)
    exact retIe (cf := (cC G)) C hr hlk hd he dX3_meet_27
  · replace he := i_t hc2 he
    refine lv_aload_n hx hb dX3_meet_9 rfl (lv_at hl 0 rfl) ?_
    refine lv_ldc hx hb hown (hts _ uw226) dX3_meet_10 ?_
    replace he := b_some he
    obtain ⟨⟨r5, V5⟩, h5, he⟩ := he
    refine kVI C hd hl.1 kw_X3_46 (by decide) cC24 rfl (c_X3_finding l G ks hJ h5) ⟨Nat.le_of_ble_eq_true rfl, Nat.le_of_ble_eq_true rfl⟩ rfl (rest := []) rfl (Nat.le_of_ble_eq_true rfl) dX3_meet_12 (fun H locs hd => ?_)
    exact retIe (cf := (cC G)) C hr hlk hd he dX3_meet_15
set_option maxRecDepth 100000 in
set_option maxHeartbeats 4000000 in
theorem c_X3_when (l : Launch) (G : Gd) (ks : Ks) (hJ : Inj 37 G.2.2) {a1 : Int32} {V V' : VV} {r : Int32} (he : f_X3_when a1 V = some (r, V')) : MI l 37 G (XC G ks) yX3_when cX3_when 2 6 135 [.ref (G.2.2 24), .int a1] (cC G V) (cC G V') r := by
  refine walk_of (own := RX3) (by decide) rfl hJ (xs_C G ks) (Nat.le_of_ble_eq_true rfl) ?_
  intro p e s m below meth c C hr hlk ls hl hd
  have hl : lv_has ls 2 [(0, .ref (G.2.2 24)), (1, .int a1)] := hl
  obtain ⟨⟨hx, hb, hml, hown, hts⟩, -⟩ := id C
  unfold f_X3_when at he
  refine lv_aload_n hx hb dX3_when_0 rfl (lv_at hl 0 rfl) ?_
  refine rgetf C hd (by decide) cC24 rfl tgX3 0 (by decide) uw199 rfl dX3_when_1 ?_
  refine lv_iload_n hx hb dX3_when_4 rfl (lv_at hl 1 rfl) ?_
  replace he := b_some he
  obtain ⟨⟨r1, V1⟩, h1, he⟩ := he
  refine kVZ C hd hl.1 kw_X3_76 (lt_moor (by decide)) (cC_moor (by decide)) rfl (c_X0_has l G ks hJ (by decide) h1) ⟨Nat.le_of_ble_eq_true rfl, Nat.le_of_ble_eq_true rfl⟩ rfl (rest := []) rfl (Nat.le_of_ble_eq_true rfl) dX3_when_5 (fun H locs hz1 hd => ?_)
  refine lv_if_ne (tgt := 18) hx hb dX3_when_8 (by decide) (fun hc2 => ?_) (fun hc2 => ?_)
  · replace he := i_f hc2 he
    refine lv_aload_n hx hb dX3_when_18 rfl (lv_at hl 0 rfl) ?_
    refine lv_aload_n hx hb dX3_when_19 rfl (lv_at hl 0 rfl) ?_
    refine lv_iconst (v := 0) hx hb dX3_when_20 (by decide) ?_
    refine lv_iload_n hx hb dX3_when_21 rfl (lv_at hl 1 rfl) ?_
    refine lv_bipush (v := (-2)) hx hb dX3_when_22 (by decide) ?_
    replace he := b_some he
    obtain ⟨⟨r3, V3⟩, h3, he⟩ := he
    refine kVI C hd hl.1 kw_X3_155 (by decide) cC24 rfl (c_X3_firstFromNow l G ks hJ h3) ⟨Nat.le_of_ble_eq_true rfl, Nat.le_of_ble_eq_true rfl⟩ rfl (rest := [.ref _]) rfl (Nat.le_of_ble_eq_true rfl) dX3_when_24 (fun H locs hd => ?_)
    replace he := b_some he
    obtain ⟨⟨r4, V4⟩, h4, he⟩ := he
    refine kVI C hd hl.1 kw_X3_159 (by decide) cC24 rfl (c_X3_orNone l G ks hJ h4) ⟨Nat.le_of_ble_eq_true rfl, Nat.le_of_ble_eq_true rfl⟩ rfl (rest := []) rfl (Nat.le_of_ble_eq_true rfl) dX3_when_27 (fun H locs hd => ?_)
    exact retIe (cf := (cC G)) C hr hlk hd he dX3_when_30
  · replace he := i_t hc2 he
    refine lv_aload_n hx hb dX3_when_11 rfl (lv_at hl 0 rfl) ?_
    refine lv_ldc hx hb hown (hts _ uw226) dX3_when_12 ?_
    replace he := b_some he
    obtain ⟨⟨r5, V5⟩, h5, he⟩ := he
    refine kVI C hd hl.1 kw_X3_46 (by decide) cC24 rfl (c_X3_finding l G ks hJ h5) ⟨Nat.le_of_ble_eq_true rfl, Nat.le_of_ble_eq_true rfl⟩ rfl (rest := []) rfl (Nat.le_of_ble_eq_true rfl) dX3_when_14 (fun H locs hd => ?_)
    exact retIe (cf := (cC G)) C hr hlk hd he dX3_when_17
set_option maxRecDepth 100000 in
set_option maxHeartbeats 4000000 in
theorem c_X3_till (l : Launch) (G : Gd) (ks : Ks) (hJ : Inj 37 G.2.2) {a1 : Int32} {V V' : VV} {r : Int32} (he : f_X3_till a1 V = some (r, V')) : MI l 37 G (XC G ks) yX3_till cX3_till 2 6 135 [.ref (G.2.2 24), .int a1] (cC G V) (cC G V') r := by
  refine walk_of (own := RX3) (by decide) rfl hJ (xs_C G ks) (Nat.le_of_ble_eq_true rfl) ?_
  intro p e s m below meth c C hr hlk ls hl hd
  have hl : lv_has ls 2 [(0, .ref (G.2.2 24)), (1, .int a1)] := hl
  obtain ⟨⟨hx, hb, hml, hown, hts⟩, -⟩ := id C
  unfold f_X3_till at he
  refine lv_aload_n hx hb dX3_till_0 rfl (lv_at hl 0 rfl) ?_
  refine rgetf C hd (by decide) cC24 rfl tgX3 0 (by decide) uw199 rfl dX3_till_1 ?_
  refine lv_iload_n hx hb dX3_till_4 rfl (lv_at hl 1 rfl) ?_
  replace he := b_some he
  obtain ⟨⟨r1, V1⟩, h1, he⟩ := he
  refine kVZ C hd hl.1 kw_X3_76 (lt_moor (by decide)) (cC_moor (by decide)) rfl (c_X0_has l G ks hJ (by decide) h1) ⟨Nat.le_of_ble_eq_true rfl, Nat.le_of_ble_eq_true rfl⟩ rfl (rest := []) rfl (Nat.le_of_ble_eq_true rfl) dX3_till_5 (fun H locs hz1 hd => ?_)
  refine lv_if_ne (tgt := 18) hx hb dX3_till_8 (by decide) (fun hc2 => ?_) (fun hc2 => ?_)
  · replace he := i_f hc2 he
    refine lv_aload_n hx hb dX3_till_18 rfl (lv_at hl 0 rfl) ?_
    refine lv_aload_n hx hb dX3_till_19 rfl (lv_at hl 0 rfl) ?_
    refine lv_iconst (v := 1) hx hb dX3_till_20 (by decide) ?_
    refine lv_iload_n hx hb dX3_till_21 rfl (lv_at hl 1 rfl) ?_
    refine lv_bipush (v := (-2)) hx hb dX3_till_22 (by decide) ?_
    replace he := b_some he
    obtain ⟨⟨r3, V3⟩, h3, he⟩ := he
    refine kVI C hd hl.1 kw_X3_155 (by decide) cC24 rfl (c_X3_firstFromNow l G ks hJ h3) ⟨Nat.le_of_ble_eq_true rfl, Nat.le_of_ble_eq_true rfl⟩ rfl (rest := [.ref _]) rfl (Nat.le_of_ble_eq_true rfl) dX3_till_24 (fun H locs hd => ?_)
    replace he := b_some he
    obtain ⟨⟨r4, V4⟩, h4, he⟩ := he
    refine kVI C hd hl.1 kw_X3_159 (by decide) cC24 rfl (c_X3_orNone l G ks hJ h4) ⟨Nat.le_of_ble_eq_true rfl, Nat.le_of_ble_eq_true rfl⟩ rfl (rest := []) rfl (Nat.le_of_ble_eq_true rfl) dX3_till_27 (fun H locs hd => ?_)
    exact retIe (cf := (cC G)) C hr hlk hd he dX3_till_30
  · replace he := i_t hc2 he
    refine lv_aload_n hx hb dX3_till_11 rfl (lv_at hl 0 rfl) ?_
    refine lv_ldc hx hb hown (hts _ uw226) dX3_till_12 ?_
    replace he := b_some he
    obtain ⟨⟨r5, V5⟩, h5, he⟩ := he
    refine kVI C hd hl.1 kw_X3_46 (by decide) cC24 rfl (c_X3_finding l G ks hJ h5) ⟨Nat.le_of_ble_eq_true rfl, Nat.le_of_ble_eq_true rfl⟩ rfl (rest := []) rfl (Nat.le_of_ble_eq_true rfl) dX3_till_14 (fun H locs hd => ?_)
    exact retIe (cf := (cC G)) C hr hlk hd he dX3_till_17
set_option maxRecDepth 100000 in
set_option maxHeartbeats 4000000 in
theorem c_X3_glad (l : Launch) (G : Gd) (ks : Ks) (hJ : Inj 37 G.2.2) {a1 : Int32} {V V' : VV} {r : Int32} (he : f_X3_glad a1 V = some (r, V')) : MI l 37 G (XC G ks) yX3_glad cX3_glad 2 6 135 [.ref (G.2.2 24), .int a1] (cC G V) (cC G V') r := by
  refine walk_of (own := RX3) (by decide) rfl hJ (xs_C G ks) (Nat.le_of_ble_eq_true rfl) ?_
  intro p e s m below meth c C hr hlk ls hl hd
  have hl : lv_has ls 2 [(0, .ref (G.2.2 24)), (1, .int a1)] := hl
  obtain ⟨⟨hx, hb, hml, hown, hts⟩, -⟩ := id C
  unfold f_X3_glad at he
  refine lv_aload_n hx hb dX3_glad_0 rfl (lv_at hl 0 rfl) ?_
  refine rgetf C hd (by decide) cC24 rfl tgX3 0 (by decide) uw199 rfl dX3_glad_1 ?_
  refine lv_iload_n hx hb dX3_glad_4 rfl (lv_at hl 1 rfl) ?_
  replace he := b_some he
  obtain ⟨⟨r1, V1⟩, h1, he⟩ := he
  refine kVZ C hd hl.1 kw_X3_76 (lt_moor (by decide)) (cC_moor (by decide)) rfl (c_X0_has l G ks hJ (by decide) h1) ⟨Nat.le_of_ble_eq_true rfl, Nat.le_of_ble_eq_true rfl⟩ rfl (rest := []) rfl (Nat.le_of_ble_eq_true rfl) dX3_glad_5 (fun H locs hz1 hd => ?_)
  refine lv_if_ne (tgt := 18) hx hb dX3_glad_8 (by decide) (fun hc2 => ?_) (fun hc2 => ?_)
  · replace he := i_f hc2 he
    refine lv_aload_n hx hb dX3_glad_18 rfl (lv_at hl 0 rfl) ?_
    refine lv_aload_n hx hb dX3_glad_19 rfl (lv_at hl 0 rfl) ?_
    refine lv_iconst (v := 2) hx hb dX3_glad_20 (by decide) ?_
    refine lv_iload_n hx hb dX3_glad_21 rfl (lv_at hl 1 rfl) ?_
    refine lv_bipush (v := (-2)) hx hb dX3_glad_22 (by decide) ?_
    replace he := b_some he
    obtain ⟨⟨r3, V3⟩, h3, he⟩ := he
    refine kVI C hd hl.1 kw_X3_155 (by decide) cC24 rfl (c_X3_firstFromNow l G ks hJ h3) ⟨Nat.le_of_ble_eq_true rfl, Nat.le_of_ble_eq_true rfl⟩ rfl (rest := [.ref _]) rfl (Nat.le_of_ble_eq_true rfl) dX3_glad_24 (fun H locs hd => ?_)
    replace he := b_some he
    obtain ⟨⟨r4, V4⟩, h4, he⟩ := he
    refine kVI C hd hl.1 kw_X3_159 (by decide) cC24 rfl (c_X3_orNone l G ks hJ h4) ⟨Nat.le_of_ble_eq_true rfl, Nat.le_of_ble_eq_true rfl⟩ rfl (rest := []) rfl (Nat.le_of_ble_eq_true rfl) dX3_glad_27 (fun H locs hd => ?_)
    exact retIe (cf := (cC G)) C hr hlk hd he dX3_glad_30
  · replace he := i_t hc2 he
    refine lv_aload_n hx hb dX3_glad_11 rfl (lv_at hl 0 rfl) ?_
    refine lv_ldc hx hb hown (hts _ uw226) dX3_glad_12 ?_
    replace he := b_some he
    obtain ⟨⟨r5, V5⟩, h5, he⟩ := he
    refine kVI C hd hl.1 kw_X3_46 (by decide) cC24 rfl (c_X3_finding l G ks hJ h5) ⟨Nat.le_of_ble_eq_true rfl, Nat.le_of_ble_eq_true rfl⟩ rfl (rest := []) rfl (Nat.le_of_ble_eq_true rfl) dX3_glad_14 (fun H locs hd => ?_)
    exact retIe (cf := (cC G)) C hr hlk hd he dX3_glad_17
set_option maxRecDepth 100000 in
set_option maxHeartbeats 4000000 in
theorem c_X3_suppose (l : Launch) (G : Gd) (ks : Ks) (hJ : Inj 37 G.2.2) {a1 : Int32} {a2 : Int32} {a3 : Int32} {V V' : VV} (he : f_X3_suppose a1 a2 a3 V = some V') : MV l 37 G (XC G ks) yX3_suppose cX3_suppose 4 2 51 [.ref (G.2.2 24), .int a1, .int a2, .int a3] (cC G V) (cC G V') := by
  refine walk_of (own := RX3) (by decide) rfl hJ (xs_C G ks) (Nat.le_of_ble_eq_true rfl) ?_
  intro p e s m below meth c C hr hlk ls hl hd
  have hl : lv_has ls 4 [(0, .ref (G.2.2 24)), (1, .int a1), (2, .int a2), (3, .int a3)] := hl
  obtain ⟨⟨hx, hb, hml, hown, hts⟩, -⟩ := id C
  unfold f_X3_suppose at he
  refine lv_aload_n hx hb dX3_suppose_0 rfl (lv_at hl 0 rfl) ?_
  refine rgetf C hd (by decide) cC24 rfl tgX3 1 (by decide) uw200 rfl dX3_suppose_1 ?_
  refine lv_aload_n hx hb dX3_suppose_4 rfl (lv_at hl 0 rfl) ?_
  refine rgetf C hd (by decide) cC24 rfl tgX3 0 (by decide) uw199 rfl dX3_suppose_5 ?_
  replace he := b_some he
  obtain ⟨V1, h1, he⟩ := he
  refine kVV C hd hl.1 kw_X3_148 (lt_moor (by decide)) (cC_moor (by decide)) rfl (c_X0_takeFrom l G ks hJ (by decide) (by decide) h1) ⟨Nat.le_of_ble_eq_true rfl, Nat.le_of_ble_eq_true rfl⟩ rfl (rest := []) rfl (Nat.le_of_ble_eq_true rfl) dX3_suppose_8 (fun H locs hd => ?_)
  refine lv_iload_n hx hb dX3_suppose_11 rfl (lv_at hl 1 rfl) ?_
  replace he := ite_cases he
  rcases he with ⟨hc2, he⟩ | ⟨hc2, he⟩
  · refine rtabIn (k := 0) (off := 40) (tgt := 52) hx hb dX3_suppose_12 hc2 (by decide) (by decide) rfl (by decide) ?_
    refine lv_aload_n hx hb dX3_suppose_52 rfl (lv_at hl 0 rfl) ?_
    refine rgetf C hd (by decide) cC24 rfl tgX3 1 (by decide) uw200 rfl dX3_suppose_53 ?_
    refine rgetf C hd (lt_moor (by decide)) (cC_moor (by decide)) rfl tgX0 7 (by decide) uw117 rfl dX3_suppose_56 ?_
    refine lv_iload_n hx hb dX3_suppose_59 rfl (lv_at hl 3 rfl) ?_
    refine lv_iload_n hx hb dX3_suppose_60 rfl (lv_at hl 2 rfl) ?_
    replace he := g_some he
    obtain ⟨hi3, he⟩ := he
    replace he := bv_ex he
    obtain ⟨V4, e4, he⟩ := he
    refine riast (cell' := (cC G) V4) C hd (lt_marr (by decide) 4 (by decide)) (cC_marr (by decide) 4 (by decide) (by decide)) hi3 (cC_marr_w (by decide) 4 (by decide) (by decide) e4) (cC_ne e4) dX3_suppose_61 (fun H locs hd => ?_)
    refine lv_goto (tgt := 151) hx hb dX3_suppose_62 (by decide) ?_
    exact retVe (cf := (cC G)) C hr hlk hd he dX3_suppose_151
  · replace he := ite_cases he
    rcases he with ⟨hc5, he⟩ | ⟨hc5, he⟩
    · refine rtabIn (k := 1) (off := 53) (tgt := 65) hx hb dX3_suppose_12 hc5 (by decide) (by decide) rfl (by decide) ?_
      refine lv_aload_n hx hb dX3_suppose_65 rfl (lv_at hl 0 rfl) ?_
      refine rgetf C hd (by decide) cC24 rfl tgX3 1 (by decide) uw200 rfl dX3_suppose_66 ?_
      refine lv_iload_n hx hb dX3_suppose_69 rfl (lv_at hl 3 rfl) ?_
      replace he := b_some he
      obtain ⟨V6, h6, he⟩ := he
      refine kVV C hd hl.1 kw_X3_113 (lt_moor (by decide)) (cC_moor (by decide)) rfl (c_X0_release l G ks hJ (by decide) h6) ⟨Nat.le_of_ble_eq_true rfl, Nat.le_of_ble_eq_true rfl⟩ rfl (rest := []) rfl (Nat.le_of_ble_eq_true rfl) dX3_suppose_70 (fun H locs hd => ?_)
      refine lv_aload_n hx hb dX3_suppose_73 rfl (lv_at hl 0 rfl) ?_
      refine rgetf C hd (by decide) cC24 rfl tgX3 1 (by decide) uw200 rfl dX3_suppose_74 ?_
      refine rgetf C hd (lt_moor (by decide)) (cC_moor (by decide)) rfl tgX0 5 (by decide) uw112 rfl dX3_suppose_77 ?_
      refine lv_iload_n hx hb dX3_suppose_80 rfl (lv_at hl 3 rfl) ?_
      refine lv_iload_n hx hb dX3_suppose_81 rfl (lv_at hl 2 rfl) ?_
      replace he := g_some he
      obtain ⟨hi7, he⟩ := he
      replace he := bv_ex he
      obtain ⟨V8, e8, he⟩ := he
      refine riast (cell' := (cC G) V8) C hd (lt_marr (by decide) 2 (by decide)) (cC_marr (by decide) 2 (by decide) (by decide)) hi7 (cC_marr_w (by decide) 2 (by decide) (by decide) e8) (cC_ne e8) dX3_suppose_82 (fun H locs hd => ?_)
      refine lv_goto (tgt := 151) hx hb dX3_suppose_83 (by decide) ?_
      exact retVe (cf := (cC G)) C hr hlk hd he dX3_suppose_151
    · replace he := ite_cases he
      rcases he with ⟨hc9, he⟩ | ⟨hc9, he⟩
      · refine rtabIn (k := 2) (off := 74) (tgt := 86) hx hb dX3_suppose_12 hc9 (by decide) (by decide) rfl (by decide) ?_
        refine lv_aload_n hx hb dX3_suppose_86 rfl (lv_at hl 0 rfl) ?_
        refine rgetf C hd (by decide) cC24 rfl tgX3 1 (by decide) uw200 rfl dX3_suppose_87 ?_
        refine rgetf C hd (lt_moor (by decide)) (cC_moor (by decide)) rfl tgX0 4 (by decide) uw110 rfl dX3_suppose_90 ?_
        refine lv_iload_n hx hb dX3_suppose_93 rfl (lv_at hl 3 rfl) ?_
        refine lv_iload_n hx hb dX3_suppose_94 rfl (lv_at hl 2 rfl) ?_
        replace he := g_some he
        obtain ⟨hi10, he⟩ := he
        replace he := bv_ex he
        obtain ⟨V11, e11, he⟩ := he
        refine riast (cell' := (cC G) V11) C hd (lt_marr (by decide) 1 (by decide)) (cC_marr (by decide) 1 (by decide) (by decide)) hi10 (cC_marr_w (by decide) 1 (by decide) (by decide) e11) (cC_ne e11) dX3_suppose_95 (fun H locs hd => ?_)
        refine lv_goto (tgt := 151) hx hb dX3_suppose_96 (by decide) ?_
        exact retVe (cf := (cC G)) C hr hlk hd he dX3_suppose_151
      · replace he := ite_cases he
        rcases he with ⟨hc12, he⟩ | ⟨hc12, he⟩
        · refine rtabIn (k := 3) (off := 87) (tgt := 99) hx hb dX3_suppose_12 hc12 (by decide) (by decide) rfl (by decide) ?_
          refine lv_aload_n hx hb dX3_suppose_99 rfl (lv_at hl 0 rfl) ?_
          refine rgetf C hd (by decide) cC24 rfl tgX3 1 (by decide) uw200 rfl dX3_suppose_100 ?_
          refine lv_iconst (v := 1) hx hb dX3_suppose_103 (by decide) ?_
          refine lv_iload_n hx hb dX3_suppose_104 rfl (lv_at hl 2 rfl) ?_
          refine lv_ishl hx hb dX3_suppose_105 ?_
          replace he := bv_ex he
          obtain ⟨V13, e13, he⟩ := he
          refine rputf (cell' := (cC G) V13) C hd (lt_moor (by decide)) (cC_moor (by decide)) rfl tgX0 tyX0 tyX0_ok nmX0 1 (by decide) uw102 rfl (tyX0_ok 1 (by decide)) rfl rfl (Nat.le_of_ble_eq_true rfl) (cC_moor_w (by decide) (by decide) e13) (cC_ne e13) dX3_suppose_106 (fun H locs hd => ?_)
          refine lv_goto (tgt := 151) hx hb dX3_suppose_109 (by decide) ?_
          exact retVe (cf := (cC G)) C hr hlk hd he dX3_suppose_151
        · replace he := ite_cases he
          rcases he with ⟨hc14, he⟩ | ⟨hc14, he⟩
          · refine rtabIn (k := 4) (off := 100) (tgt := 112) hx hb dX3_suppose_12 hc14 (by decide) (by decide) rfl (by decide) ?_
            refine lv_aload_n hx hb dX3_suppose_112 rfl (lv_at hl 0 rfl) ?_
            refine rgetf C hd (by decide) cC24 rfl tgX3 1 (by decide) uw200 rfl dX3_suppose_113 ?_
            refine rgetf C hd (lt_moor (by decide)) (cC_moor (by decide)) rfl tgX0 8 (by decide) uw120 rfl dX3_suppose_116 ?_
            refine lv_iload_n hx hb dX3_suppose_119 rfl (lv_at hl 3 rfl) ?_
            refine lv_iload_n hx hb dX3_suppose_120 rfl (lv_at hl 2 rfl) ?_
            replace he := g_some he
            obtain ⟨hi15, he⟩ := he
            replace he := bv_ex he
            obtain ⟨V16, e16, he⟩ := he
            refine riast (cell' := (cC G) V16) C hd (lt_marr (by decide) 5 (by decide)) (cC_marr (by decide) 5 (by decide) (by decide)) hi15 (cC_marr_w (by decide) 5 (by decide) (by decide) e16) (cC_ne e16) dX3_suppose_121 (fun H locs hd => ?_)
            refine lv_goto (tgt := 151) hx hb dX3_suppose_122 (by decide) ?_
            exact retVe (cf := (cC G)) C hr hlk hd he dX3_suppose_151
          · replace he := ite_cases he
            rcases he with ⟨hc17, he⟩ | ⟨hc17, he⟩
            · refine rtabIn (k := 5) (off := 113) (tgt := 125) hx hb dX3_suppose_12 hc17 (by decide) (by decide) rfl (by decide) ?_
              refine lv_aload_n hx hb dX3_suppose_125 rfl (lv_at hl 0 rfl) ?_
              refine rgetf C hd (by decide) cC24 rfl tgX3 1 (by decide) uw200 rfl dX3_suppose_126 ?_
              refine lv_dup hx hb dX3_suppose_129 rfl ?_
              refine rgetf C hd (lt_moor (by decide)) (cC_moor (by decide)) rfl tgX0 1 (by decide) uw102 rfl dX3_suppose_130 ?_
              refine lv_iconst (v := 1) hx hb dX3_suppose_133 (by decide) ?_
              refine lv_iload_n hx hb dX3_suppose_134 rfl (lv_at hl 2 rfl) ?_
              refine lv_ishl hx hb dX3_suppose_135 ?_
              refine lv_ior hx hb dX3_suppose_136 ?_
              replace he := bv_ex he
              obtain ⟨V18, e18, he⟩ := he
              refine rputf (cell' := (cC G) V18) C hd (lt_moor (by decide)) (cC_moor (by decide)) rfl tgX0 tyX0 tyX0_ok nmX0 1 (by decide) uw102 rfl (tyX0_ok 1 (by decide)) rfl rfl (Nat.le_of_ble_eq_true rfl) (cC_moor_w (by decide) (by decide) e18) (cC_ne e18) dX3_suppose_137 (fun H locs hd => ?_)
              refine lv_goto (tgt := 151) hx hb dX3_suppose_140 (by decide) ?_
              exact retVe (cf := (cC G)) C hr hlk hd he dX3_suppose_151
            · refine lv_tableOut (tgt := 143) hx hb dX3_suppose_12 (tbl_out (fun k k1 k2 => by rcases (show k = 0 ∨ k = 1 ∨ k = 2 ∨ k = 3 ∨ k = 4 ∨ k = 5 by omega) with rfl | rfl | rfl | rfl | rfl | rfl <;> first | exact hc2 | exact hc5 | exact hc9 | exact hc12 | exact hc14 | exact hc17)) (by decide) ?_
              refine lv_aload_n hx hb dX3_suppose_143 rfl (lv_at hl 0 rfl) ?_
              refine rgetf C hd (by decide) cC24 rfl tgX3 1 (by decide) uw200 rfl dX3_suppose_144 ?_
              refine lv_iload_n hx hb dX3_suppose_147 rfl (lv_at hl 2 rfl) ?_
              replace he := bv_ex he
              obtain ⟨V19, e19, he⟩ := he
              refine rputf (cell' := (cC G) V19) C hd (lt_moor (by decide)) (cC_moor (by decide)) rfl tgX0 tyX0 tyX0_ok nmX0 2 (by decide) uw105 rfl (tyX0_ok 2 (by decide)) rfl rfl (Nat.le_of_ble_eq_true rfl) (cC_moor_w (by decide) (by decide) e19) (cC_ne e19) dX3_suppose_148 (fun H locs hd => ?_)
              exact retVe (cf := (cC G)) C hr hlk hd he dX3_suppose_151
set_option maxRecDepth 100000 in
set_option maxHeartbeats 4000000 in
theorem c_X3_soonestChoice (l : Launch) (G : Gd) (ks : Ks) (hJ : Inj 37 G.2.2) {a1 : Int32} {a2 : Int32} {a3 : Int32} {a4 : Int32} {a5 : Int32} {V V' : VV} {r : Int32} (he : f_X3_soonestChoice a1 a2 a3 a4 a5 V = some (r, V')) : MI l 37 G (XC G ks) yX3_soonestChoice cX3_soonestChoice 10 5 112 [.ref (G.2.2 24), .int a1, .int a2, .int a3, .int a4, .int a5] (cC G V) (cC G V') r := by
  refine walk_of (own := RX3) (by decide) rfl hJ (xs_C G ks) (Nat.le_of_ble_eq_true rfl) ?_
  intro p e s m below meth c C hr hlk ls hl hd
  have hl : lv_has ls 10 [(0, .ref (G.2.2 24)), (1, .int a1), (2, .int a2), (3, .int a3), (4, .int a4), (5, .int a5)] := hl
  obtain ⟨⟨hx, hb, hml, hown, hts⟩, -⟩ := id C
  have L9 : ∀ (fuel : Nat), ∀ (x1 : Int32) (x2 : Int32) (x4 : Int32) (x5 : Int32) (x6 : Int32) (x7 : Int32) (x8 : Int32) (V : VV) (H : Heap) (locs : List Loc) (ls : Array Slot), lv_has ls 10 [(0, .ref (G.2.2 24)), (1, .int x1), (2, .int x2), (4, .int x4), (5, .int x5), (6, .int x6), (7, .int x7), (8, .int x8)] → Dy 37 G (cC G V) s H locs → f_X3_soonestChoice_L9 fuel x1 x2 x4 x5 x6 x7 x8 V = some (r, V') → W p l e (rmF 5 112) s m ([.ref (G.2.2 24), .int a1, .int a2, .int a3, .int a4, .int a5] : List Value).toArray below meth c H locs 0 0 (MQ below (QI 37 G (cC G V') (fun r' => r' = r)) ([.ref (G.2.2 24), .int a1, .int a2, .int a3, .int a4, .int a5] : List Value).toArray s 0 0 (inA 37 G.2.2)) (F0 m 9 ls []) := by
    intro fuel
    induction fuel with
    | zero => intro x1 x2 x4 x5 x6 x7 x8 V H locs ls hl hd he; simp [f_X3_soonestChoice_L9] at he
    | succ n ih9 =>
      intro x1 x2 x4 x5 x6 x7 x8 V H locs ls hl hd he
      rw [f_X3_soonestChoice_L9] at he
      refine lv_iload hx hb dX3_soonestChoice_9 (lv_at hl 7 rfl) ?_
      refine lv_iload_n hx hb dX3_soonestChoice_11 rfl (lv_at hl 2 rfl) ?_
      refine lv_icmp_ge (tgt := 63) hx hb dX3_soonestChoice_12 (by decide) (fun hc1 => ?_) (fun hc1 => ?_)
      · replace he := i_t hc1 he
        refine lv_iload hx hb dX3_soonestChoice_63 (lv_at hl 5 rfl) ?_
        exact retIe (cf := (cC G)) C hr hlk hd he dX3_soonestChoice_65
      · replace he := i_f hc1 he
        refine lv_iload hx hb dX3_soonestChoice_15 (lv_at hl 6 rfl) ?_
        refine lv_if_lt (tgt := 63) hx hb dX3_soonestChoice_17 (by decide) (fun hc2 => ?_) (fun hc2 => ?_)
        · replace he := i_t hc2 he
          refine lv_iload hx hb dX3_soonestChoice_63 (lv_at hl 5 rfl) ?_
          exact retIe (cf := (cC G)) C hr hlk hd he dX3_soonestChoice_65
        · replace he := i_f hc2 he
          refine lv_aload_n hx hb dX3_soonestChoice_20 rfl (lv_at hl 0 rfl) ?_
          refine lv_iload_n hx hb dX3_soonestChoice_21 rfl (lv_at hl 1 rfl) ?_
          refine lv_iload hx hb dX3_soonestChoice_22 (lv_at hl 7 rfl) ?_
          refine lv_iload hx hb dX3_soonestChoice_24 (lv_at hl 3 rfl) ?_
          replace he := b_some he
          obtain ⟨V3, h3, he⟩ := he
          refine kVV C hd hl.1 kw_X3_241 (by decide) cC24 rfl (c_X3_suppose l G ks hJ h3) ⟨Nat.le_of_ble_eq_true rfl, Nat.le_of_ble_eq_true rfl⟩ rfl (rest := []) rfl (Nat.le_of_ble_eq_true rfl) dX3_soonestChoice_26 (fun H locs hd => ?_)
          refine lv_aload_n hx hb dX3_soonestChoice_29 rfl (lv_at hl 0 rfl) ?_
          refine lv_iconst (v := 0) hx hb dX3_soonestChoice_30 (by decide) ?_
          refine lv_iload hx hb dX3_soonestChoice_31 (lv_at hl 3 rfl) ?_
          refine lv_iload hx hb dX3_soonestChoice_33 (lv_at hl 4 rfl) ?_
          refine lv_iload hx hb dX3_soonestChoice_35 (lv_at hl 6 rfl) ?_
          replace he := b_some he
          obtain ⟨⟨r4, V4⟩, h4, he⟩ := he
          refine kVI C hd hl.1 kw_X3_231 (by decide) cC24 rfl (c_X3_firstInTrial l G ks hJ h4) ⟨Nat.le_of_ble_eq_true rfl, Nat.le_of_ble_eq_true rfl⟩ rfl (rest := []) rfl (Nat.le_of_ble_eq_true rfl) dX3_soonestChoice_37 (fun H locs hd => ?_)
          refine lv_istore (lv' := [(9, .int _), (0, .ref _), (1, .int _), (2, .int _), (4, .int _), (5, .int _), (6, .int _), (7, .int _), (8, .int _)]) hx hb dX3_soonestChoice_40 hl (by decide) rfl (fun ls hl => ?_)
          refine lv_iload hx hb dX3_soonestChoice_42 (lv_at hl 0 rfl) ?_
          refine lv_if_lt (tgt := 57) hx hb dX3_soonestChoice_44 (by decide) (fun hc5 => ?_) (fun hc5 => ?_)
          · replace he := i_t hc5 he
            refine lv_iinc (v := _ + 1) (lv' := [(8, .int _), (9, .int _), (0, .ref _), (1, .int _), (2, .int _), (4, .int _), (5, .int _), (6, .int _), (7, .int _)]) hx hb dX3_soonestChoice_57 hl (k := 8) rfl rfl (by decide) rfl (fun ls hl => ?_)
            refine lv_goto (tgt := 9) hx hb dX3_soonestChoice_60 (by decide) ?_
            exact ih9 _ _ _ _ _ _ _ _ _ _ _ (lv_sub hl [2, 3, 4, 5, 6, 7, 8, 0] rfl) hd he
          · replace he := i_f hc5 he
            refine lv_iload hx hb dX3_soonestChoice_47 (lv_at hl 8 rfl) ?_
            refine lv_istore (lv' := [(6, .int _), (9, .int _), (0, .ref _), (1, .int _), (2, .int _), (4, .int _), (5, .int _), (7, .int _), (8, .int _)]) hx hb dX3_soonestChoice_49 hl (by decide) rfl (fun ls hl => ?_)
            refine lv_iload hx hb dX3_soonestChoice_51 (lv_at hl 1 rfl) ?_
            refine lv_iconst (v := 1) hx hb dX3_soonestChoice_53 (by decide) ?_
            refine lv_isub hx hb dX3_soonestChoice_54 ?_
            refine lv_istore (lv' := [(7, .int _), (6, .int _), (9, .int _), (0, .ref _), (1, .int _), (2, .int _), (4, .int _), (5, .int _), (8, .int _)]) hx hb dX3_soonestChoice_55 hl (by decide) rfl (fun ls hl => ?_)
            refine lv_iinc (v := _ + 1) (lv' := [(8, .int _), (7, .int _), (6, .int _), (9, .int _), (0, .ref _), (1, .int _), (2, .int _), (4, .int _), (5, .int _)]) hx hb dX3_soonestChoice_57 hl (k := 8) rfl rfl (by decide) rfl (fun ls hl => ?_)
            refine lv_goto (tgt := 9) hx hb dX3_soonestChoice_60 (by decide) ?_
            exact ih9 _ _ _ _ _ _ _ _ _ _ _ (lv_sub hl [4, 5, 6, 7, 8, 2, 1, 0] rfl) hd he
  unfold f_X3_soonestChoice at he
  refine lv_iconst (v := (-1)) hx hb dX3_soonestChoice_0 (by decide) ?_
  refine lv_istore (lv' := [(6, .int _), (0, .ref _), (1, .int _), (2, .int _), (3, .int _), (4, .int _), (5, .int _)]) hx hb dX3_soonestChoice_1 hl (by decide) rfl (fun ls hl => ?_)
  refine lv_iload_n hx hb dX3_soonestChoice_3 rfl (lv_at hl 4 rfl) ?_
  refine lv_istore (lv' := [(7, .int _), (6, .int _), (0, .ref _), (1, .int _), (2, .int _), (3, .int _), (4, .int _), (5, .int _)]) hx hb dX3_soonestChoice_4 hl (by decide) rfl (fun ls hl => ?_)
  refine lv_iconst (v := 0) hx hb dX3_soonestChoice_6 (by decide) ?_
  refine lv_istore (lv' := [(8, .int _), (7, .int _), (6, .int _), (0, .ref _), (1, .int _), (2, .int _), (3, .int _), (4, .int _), (5, .int _)]) hx hb dX3_soonestChoice_7 hl (by decide) rfl (fun ls hl => ?_)
  exact L9 200 _ _ _ _ _ _ _ _ _ _ _ (lv_sub hl [3, 4, 5, 7, 8, 2, 1, 0] rfl) hd he
set_option maxRecDepth 100000 in
set_option maxHeartbeats 4000000 in
theorem c_X3_heading (l : Launch) (G : Gd) (ks : Ks) (hJ : Inj 37 G.2.2) {a1 : Int32} {a2 : Int32} {V V' : VV} {r : Int32} (he : f_X3_heading a1 a2 V = some (r, V')) : MI l 37 G (XC G ks) yX3_heading cX3_heading 3 6 141 [.ref (G.2.2 24), .int a1, .int a2] (cC G V) (cC G V') r := by
  refine walk_of (own := RX3) (by decide) rfl hJ (xs_C G ks) (Nat.le_of_ble_eq_true rfl) ?_
  intro p e s m below meth c C hr hlk ls hl hd
  have hl : lv_has ls 3 [(0, .ref (G.2.2 24)), (1, .int a1), (2, .int a2)] := hl
  obtain ⟨⟨hx, hb, hml, hown, hts⟩, -⟩ := id C
  unfold f_X3_heading at he
  refine lv_aload_n hx hb dX3_heading_0 rfl (lv_at hl 0 rfl) ?_
  refine lv_iload_n hx hb dX3_heading_1 rfl (lv_at hl 1 rfl) ?_
  refine lv_iload_n hx hb dX3_heading_2 rfl (lv_at hl 2 rfl) ?_
  replace he := b_some he
  obtain ⟨⟨r1, V1⟩, h1, he⟩ := he
  refine kVZ C hd hl.1 kw_X3_117 (by decide) cC24 rfl (c_X3_areTwo l G ks hJ h1) ⟨Nat.le_of_ble_eq_true rfl, Nat.le_of_ble_eq_true rfl⟩ rfl (rest := []) rfl (Nat.le_of_ble_eq_true rfl) dX3_heading_3 (fun H locs hz1 hd => ?_)
  refine lv_if_ne (tgt := 16) hx hb dX3_heading_6 (by decide) (fun hc2 => ?_) (fun hc2 => ?_)
  · replace he := i_f hc2 he
    refine lv_aload_n hx hb dX3_heading_16 rfl (lv_at hl 0 rfl) ?_
    refine lv_aload_n hx hb dX3_heading_17 rfl (lv_at hl 0 rfl) ?_
    refine lv_iconst (v := 0) hx hb dX3_heading_18 (by decide) ?_
    refine lv_iconst (v := 4) hx hb dX3_heading_19 (by decide) ?_
    refine lv_bipush (v := 100) hx hb dX3_heading_20 (by decide) ?_
    refine lv_iload_n hx hb dX3_heading_22 rfl (lv_at hl 1 rfl) ?_
    refine lv_iload_n hx hb dX3_heading_23 rfl (lv_at hl 2 rfl) ?_
    replace he := b_some he
    obtain ⟨⟨r3, V3⟩, h3, he⟩ := he
    refine kVI C hd hl.1 kw_X3_162 (by decide) cC24 rfl (c_X3_soonestChoice l G ks hJ h3) ⟨Nat.le_of_ble_eq_true rfl, Nat.le_of_ble_eq_true rfl⟩ rfl (rest := [.ref _]) rfl (Nat.le_of_ble_eq_true rfl) dX3_heading_24 (fun H locs hd => ?_)
    replace he := b_some he
    obtain ⟨⟨r4, V4⟩, h4, he⟩ := he
    refine kVI C hd hl.1 kw_X3_159 (by decide) cC24 rfl (c_X3_orNone l G ks hJ h4) ⟨Nat.le_of_ble_eq_true rfl, Nat.le_of_ble_eq_true rfl⟩ rfl (rest := []) rfl (Nat.le_of_ble_eq_true rfl) dX3_heading_27 (fun H locs hd => ?_)
    exact retIe (cf := (cC G)) C hr hlk hd he dX3_heading_30
  · replace he := i_t hc2 he
    refine lv_aload_n hx hb dX3_heading_9 rfl (lv_at hl 0 rfl) ?_
    refine lv_ldc hx hb hown (hts _ uw226) dX3_heading_10 ?_
    replace he := b_some he
    obtain ⟨⟨r5, V5⟩, h5, he⟩ := he
    refine kVI C hd hl.1 kw_X3_46 (by decide) cC24 rfl (c_X3_finding l G ks hJ h5) ⟨Nat.le_of_ble_eq_true rfl, Nat.le_of_ble_eq_true rfl⟩ rfl (rest := []) rfl (Nat.le_of_ble_eq_true rfl) dX3_heading_12 (fun H locs hd => ?_)
    exact retIe (cf := (cC G)) C hr hlk hd he dX3_heading_15
set_option maxRecDepth 100000 in
set_option maxHeartbeats 4000000 in
theorem c_X3_begin (l : Launch) (G : Gd) (ks : Ks) (hJ : Inj 37 G.2.2) {a1 : Int32} {a2 : Int32} {V V' : VV} {r : Int32} (he : f_X3_begin a1 a2 V = some (r, V')) : MI l 37 G (XC G ks) yX3_begin cX3_begin 3 6 141 [.ref (G.2.2 24), .int a1, .int a2] (cC G V) (cC G V') r := by
  refine walk_of (own := RX3) (by decide) rfl hJ (xs_C G ks) (Nat.le_of_ble_eq_true rfl) ?_
  intro p e s m below meth c C hr hlk ls hl hd
  have hl : lv_has ls 3 [(0, .ref (G.2.2 24)), (1, .int a1), (2, .int a2)] := hl
  obtain ⟨⟨hx, hb, hml, hown, hts⟩, -⟩ := id C
  unfold f_X3_begin at he
  refine lv_aload_n hx hb dX3_begin_0 rfl (lv_at hl 0 rfl) ?_
  refine lv_iload_n hx hb dX3_begin_1 rfl (lv_at hl 1 rfl) ?_
  refine lv_iload_n hx hb dX3_begin_2 rfl (lv_at hl 2 rfl) ?_
  replace he := b_some he
  obtain ⟨⟨r1, V1⟩, h1, he⟩ := he
  refine kVZ C hd hl.1 kw_X3_117 (by decide) cC24 rfl (c_X3_areTwo l G ks hJ h1) ⟨Nat.le_of_ble_eq_true rfl, Nat.le_of_ble_eq_true rfl⟩ rfl (rest := []) rfl (Nat.le_of_ble_eq_true rfl) dX3_begin_3 (fun H locs hz1 hd => ?_)
  refine lv_if_ne (tgt := 16) hx hb dX3_begin_6 (by decide) (fun hc2 => ?_) (fun hc2 => ?_)
  · replace he := i_f hc2 he
    refine lv_aload_n hx hb dX3_begin_16 rfl (lv_at hl 0 rfl) ?_
    refine lv_aload_n hx hb dX3_begin_17 rfl (lv_at hl 0 rfl) ?_
    refine lv_iconst (v := 1) hx hb dX3_begin_18 (by decide) ?_
    refine lv_bipush (v := 36) hx hb dX3_begin_19 (by decide) ?_
    refine lv_bipush (v := 30) hx hb dX3_begin_21 (by decide) ?_
    refine lv_iload_n hx hb dX3_begin_23 rfl (lv_at hl 1 rfl) ?_
    refine lv_iload_n hx hb dX3_begin_24 rfl (lv_at hl 2 rfl) ?_
    replace he := b_some he
    obtain ⟨⟨r3, V3⟩, h3, he⟩ := he
    refine kVI C hd hl.1 kw_X3_162 (by decide) cC24 rfl (c_X3_soonestChoice l G ks hJ h3) ⟨Nat.le_of_ble_eq_true rfl, Nat.le_of_ble_eq_true rfl⟩ rfl (rest := [.ref _]) rfl (Nat.le_of_ble_eq_true rfl) dX3_begin_25 (fun H locs hd => ?_)
    replace he := b_some he
    obtain ⟨⟨r4, V4⟩, h4, he⟩ := he
    refine kVI C hd hl.1 kw_X3_159 (by decide) cC24 rfl (c_X3_orNone l G ks hJ h4) ⟨Nat.le_of_ble_eq_true rfl, Nat.le_of_ble_eq_true rfl⟩ rfl (rest := []) rfl (Nat.le_of_ble_eq_true rfl) dX3_begin_28 (fun H locs hd => ?_)
    exact retIe (cf := (cC G)) C hr hlk hd he dX3_begin_31
  · replace he := i_t hc2 he
    refine lv_aload_n hx hb dX3_begin_9 rfl (lv_at hl 0 rfl) ?_
    refine lv_ldc hx hb hown (hts _ uw226) dX3_begin_10 ?_
    replace he := b_some he
    obtain ⟨⟨r5, V5⟩, h5, he⟩ := he
    refine kVI C hd hl.1 kw_X3_46 (by decide) cC24 rfl (c_X3_finding l G ks hJ h5) ⟨Nat.le_of_ble_eq_true rfl, Nat.le_of_ble_eq_true rfl⟩ rfl (rest := []) rfl (Nat.le_of_ble_eq_true rfl) dX3_begin_12 (fun H locs hd => ?_)
    exact retIe (cf := (cC G)) C hr hlk hd he dX3_begin_15
set_option maxRecDepth 100000 in
set_option maxHeartbeats 4000000 in
theorem c_X3_kind (l : Launch) (G : Gd) (ks : Ks) (hJ : Inj 37 G.2.2) {a1 : Int32} {V V' : VV} {r : Int32} (he : f_X3_kind a1 V = some (r, V')) : MI l 37 G (XC G ks) yX3_kind cX3_kind 2 6 141 [.ref (G.2.2 24), .int a1] (cC G V) (cC G V') r := by
  refine walk_of (own := RX3) (by decide) rfl hJ (xs_C G ks) (Nat.le_of_ble_eq_true rfl) ?_
  intro p e s m below meth c C hr hlk ls hl hd
  have hl : lv_has ls 2 [(0, .ref (G.2.2 24)), (1, .int a1)] := hl
  obtain ⟨⟨hx, hb, hml, hown, hts⟩, -⟩ := id C
  unfold f_X3_kind at he
  refine lv_aload_n hx hb dX3_kind_0 rfl (lv_at hl 0 rfl) ?_
  refine rgetf C hd (by decide) cC24 rfl tgX3 0 (by decide) uw199 rfl dX3_kind_1 ?_
  refine lv_iload_n hx hb dX3_kind_4 rfl (lv_at hl 1 rfl) ?_
  replace he := b_some he
  obtain ⟨⟨r1, V1⟩, h1, he⟩ := he
  refine kVZ C hd hl.1 kw_X3_76 (lt_moor (by decide)) (cC_moor (by decide)) rfl (c_X0_has l G ks hJ (by decide) h1) ⟨Nat.le_of_ble_eq_true rfl, Nat.le_of_ble_eq_true rfl⟩ rfl (rest := []) rfl (Nat.le_of_ble_eq_true rfl) dX3_kind_5 (fun H locs hz1 hd => ?_)
  refine lv_if_ne (tgt := 18) hx hb dX3_kind_8 (by decide) (fun hc2 => ?_) (fun hc2 => ?_)
  · replace he := i_f hc2 he
    refine lv_aload_n hx hb dX3_kind_18 rfl (lv_at hl 0 rfl) ?_
    refine lv_aload_n hx hb dX3_kind_19 rfl (lv_at hl 0 rfl) ?_
    refine lv_iconst (v := 2) hx hb dX3_kind_20 (by decide) ?_
    refine lv_bipush (v := 6) hx hb dX3_kind_21 (by decide) ?_
    refine lv_bipush (v := 100) hx hb dX3_kind_23 (by decide) ?_
    refine lv_iload_n hx hb dX3_kind_25 rfl (lv_at hl 1 rfl) ?_
    refine lv_bipush (v := (-2)) hx hb dX3_kind_26 (by decide) ?_
    replace he := b_some he
    obtain ⟨⟨r3, V3⟩, h3, he⟩ := he
    refine kVI C hd hl.1 kw_X3_162 (by decide) cC24 rfl (c_X3_soonestChoice l G ks hJ h3) ⟨Nat.le_of_ble_eq_true rfl, Nat.le_of_ble_eq_true rfl⟩ rfl (rest := [.ref _]) rfl (Nat.le_of_ble_eq_true rfl) dX3_kind_28 (fun H locs hd => ?_)
    replace he := b_some he
    obtain ⟨⟨r4, V4⟩, h4, he⟩ := he
    refine kVI C hd hl.1 kw_X3_159 (by decide) cC24 rfl (c_X3_orNone l G ks hJ h4) ⟨Nat.le_of_ble_eq_true rfl, Nat.le_of_ble_eq_true rfl⟩ rfl (rest := []) rfl (Nat.le_of_ble_eq_true rfl) dX3_kind_31 (fun H locs hd => ?_)
    exact retIe (cf := (cC G)) C hr hlk hd he dX3_kind_34
  · replace he := i_t hc2 he
    refine lv_aload_n hx hb dX3_kind_11 rfl (lv_at hl 0 rfl) ?_
    refine lv_ldc hx hb hown (hts _ uw226) dX3_kind_12 ?_
    replace he := b_some he
    obtain ⟨⟨r5, V5⟩, h5, he⟩ := he
    refine kVI C hd hl.1 kw_X3_46 (by decide) cC24 rfl (c_X3_finding l G ks hJ h5) ⟨Nat.le_of_ble_eq_true rfl, Nat.le_of_ble_eq_true rfl⟩ rfl (rest := []) rfl (Nat.le_of_ble_eq_true rfl) dX3_kind_14 (fun H locs hd => ?_)
    exact retIe (cf := (cC G)) C hr hlk hd he dX3_kind_17
set_option maxRecDepth 100000 in
set_option maxHeartbeats 4000000 in
theorem c_X3_hour (l : Launch) (G : Gd) (ks : Ks) (hJ : Inj 37 G.2.2) {a1 : Int32} {a2 : Int32} {V V' : VV} {r : Int32} (he : f_X3_hour a1 a2 V = some (r, V')) : MI l 37 G (XC G ks) yX3_hour cX3_hour 3 6 141 [.ref (G.2.2 24), .int a1, .int a2] (cC G V) (cC G V') r := by
  refine walk_of (own := RX3) (by decide) rfl hJ (xs_C G ks) (Nat.le_of_ble_eq_true rfl) ?_
  intro p e s m below meth c C hr hlk ls hl hd
  have hl : lv_has ls 3 [(0, .ref (G.2.2 24)), (1, .int a1), (2, .int a2)] := hl
  obtain ⟨⟨hx, hb, hml, hown, hts⟩, -⟩ := id C
  unfold f_X3_hour at he
  refine lv_aload_n hx hb dX3_hour_0 rfl (lv_at hl 0 rfl) ?_
  refine lv_iload_n hx hb dX3_hour_1 rfl (lv_at hl 1 rfl) ?_
  refine lv_iload_n hx hb dX3_hour_2 rfl (lv_at hl 2 rfl) ?_
  replace he := b_some he
  obtain ⟨⟨r1, V1⟩, h1, he⟩ := he
  refine kVZ C hd hl.1 kw_X3_117 (by decide) cC24 rfl (c_X3_areTwo l G ks hJ h1) ⟨Nat.le_of_ble_eq_true rfl, Nat.le_of_ble_eq_true rfl⟩ rfl (rest := []) rfl (Nat.le_of_ble_eq_true rfl) dX3_hour_3 (fun H locs hz1 hd => ?_)
  refine lv_if_ne (tgt := 16) hx hb dX3_hour_6 (by decide) (fun hc2 => ?_) (fun hc2 => ?_)
  · replace he := i_f hc2 he
    refine lv_aload_n hx hb dX3_hour_16 rfl (lv_at hl 0 rfl) ?_
    refine lv_aload_n hx hb dX3_hour_17 rfl (lv_at hl 0 rfl) ?_
    refine lv_iconst (v := 3) hx hb dX3_hour_18 (by decide) ?_
    refine lv_bipush (v := 24) hx hb dX3_hour_19 (by decide) ?_
    refine lv_bipush (v := 60) hx hb dX3_hour_21 (by decide) ?_
    refine lv_iload_n hx hb dX3_hour_23 rfl (lv_at hl 1 rfl) ?_
    refine lv_iload_n hx hb dX3_hour_24 rfl (lv_at hl 2 rfl) ?_
    replace he := b_some he
    obtain ⟨⟨r3, V3⟩, h3, he⟩ := he
    refine kVI C hd hl.1 kw_X3_162 (by decide) cC24 rfl (c_X3_soonestChoice l G ks hJ h3) ⟨Nat.le_of_ble_eq_true rfl, Nat.le_of_ble_eq_true rfl⟩ rfl (rest := [.ref _]) rfl (Nat.le_of_ble_eq_true rfl) dX3_hour_25 (fun H locs hd => ?_)
    replace he := b_some he
    obtain ⟨⟨r4, V4⟩, h4, he⟩ := he
    refine kVI C hd hl.1 kw_X3_159 (by decide) cC24 rfl (c_X3_orNone l G ks hJ h4) ⟨Nat.le_of_ble_eq_true rfl, Nat.le_of_ble_eq_true rfl⟩ rfl (rest := []) rfl (Nat.le_of_ble_eq_true rfl) dX3_hour_28 (fun H locs hd => ?_)
    exact retIe (cf := (cC G)) C hr hlk hd he dX3_hour_31
  · replace he := i_t hc2 he
    refine lv_aload_n hx hb dX3_hour_9 rfl (lv_at hl 0 rfl) ?_
    refine lv_ldc hx hb hown (hts _ uw226) dX3_hour_10 ?_
    replace he := b_some he
    obtain ⟨⟨r5, V5⟩, h5, he⟩ := he
    refine kVI C hd hl.1 kw_X3_46 (by decide) cC24 rfl (c_X3_finding l G ks hJ h5) ⟨Nat.le_of_ble_eq_true rfl, Nat.le_of_ble_eq_true rfl⟩ rfl (rest := []) rfl (Nat.le_of_ble_eq_true rfl) dX3_hour_12 (fun H locs hd => ?_)
    exact retIe (cf := (cC G)) C hr hlk hd he dX3_hour_15
set_option maxRecDepth 100000 in
set_option maxHeartbeats 4000000 in
theorem c_X3_fullestChoice (l : Launch) (G : Gd) (ks : Ks) (hJ : Inj 37 G.2.2) {a1 : Int32} {a2 : Int32} {a3 : Int32} {a4 : Int32} {V V' : VV} {r : Int32} (he : f_X3_fullestChoice a1 a2 a3 a4 V = some (r, V')) : MI l 37 G (XC G ks) yX3_fullestChoice cX3_fullestChoice 9 5 109 [.ref (G.2.2 24), .int a1, .int a2, .int a3, .int a4] (cC G V) (cC G V') r := by
  refine walk_of (own := RX3) (by decide) rfl hJ (xs_C G ks) (Nat.le_of_ble_eq_true rfl) ?_
  intro p e s m below meth c C hr hlk ls hl hd
  have hl : lv_has ls 9 [(0, .ref (G.2.2 24)), (1, .int a1), (2, .int a2), (3, .int a3), (4, .int a4)] := hl
  obtain ⟨⟨hx, hb, hml, hown, hts⟩, -⟩ := id C
  have L9 : ∀ (fuel : Nat), ∀ (x1 : Int32) (x2 : Int32) (x3 : Int32) (x4 : Int32) (x5 : Int32) (x6 : Int32) (x7 : Int32) (V : VV) (H : Heap) (locs : List Loc) (ls : Array Slot), lv_has ls 9 [(0, .ref (G.2.2 24)), (1, .int x1), (2, .int x2), (3, .int x3), (4, .int x4), (5, .int x5), (6, .int x6), (7, .int x7)] → Dy 37 G (cC G V) s H locs → f_X3_fullestChoice_L9 fuel x1 x2 x3 x4 x5 x6 x7 V = some (r, V') → W p l e (rmF 5 109) s m ([.ref (G.2.2 24), .int a1, .int a2, .int a3, .int a4] : List Value).toArray below meth c H locs 0 0 (MQ below (QI 37 G (cC G V') (fun r' => r' = r)) ([.ref (G.2.2 24), .int a1, .int a2, .int a3, .int a4] : List Value).toArray s 0 0 (inA 37 G.2.2)) (F0 m 9 ls []) := by
    intro fuel
    induction fuel with
    | zero => intro x1 x2 x3 x4 x5 x6 x7 V H locs ls hl hd he; simp [f_X3_fullestChoice_L9] at he
    | succ n ih9 =>
      intro x1 x2 x3 x4 x5 x6 x7 V H locs ls hl hd he
      rw [f_X3_fullestChoice_L9] at he
      refine lv_iload hx hb dX3_fullestChoice_9 (lv_at hl 7 rfl) ?_
      refine lv_iload_n hx hb dX3_fullestChoice_11 rfl (lv_at hl 2 rfl) ?_
      refine lv_icmp_ge (tgt := 92) hx hb dX3_fullestChoice_12 (by decide) (fun hc1 => ?_) (fun hc1 => ?_)
      · replace he := i_t hc1 he
        refine lv_iload hx hb dX3_fullestChoice_92 (lv_at hl 5 rfl) ?_
        exact retIe (cf := (cC G)) C hr hlk hd he dX3_fullestChoice_94
      · replace he := i_f hc1 he
        refine lv_iload hx hb dX3_fullestChoice_15 (lv_at hl 6 rfl) ?_
        refine lv_aload_n hx hb dX3_fullestChoice_17 rfl (lv_at hl 0 rfl) ?_
        refine rgetf C hd (by decide) cC24 rfl tgX3 0 (by decide) uw199 rfl dX3_fullestChoice_18 ?_
        refine rgetf C hd (lt_moor (by decide)) (cC_moor (by decide)) rfl tgX0 3 (by decide) uw108 rfl dX3_fullestChoice_21 ?_
        refine lv_icmp_ge (tgt := 92) hx hb dX3_fullestChoice_24 (by decide) (fun hc2 => ?_) (fun hc2 => ?_)
        · replace he := i_t hc2 he
          refine lv_iload hx hb dX3_fullestChoice_92 (lv_at hl 5 rfl) ?_
          exact retIe (cf := (cC G)) C hr hlk hd he dX3_fullestChoice_94
        · replace he := i_f hc2 he
          refine lv_aload_n hx hb dX3_fullestChoice_27 rfl (lv_at hl 0 rfl) ?_
          refine lv_iload_n hx hb dX3_fullestChoice_28 rfl (lv_at hl 1 rfl) ?_
          refine lv_iload hx hb dX3_fullestChoice_29 (lv_at hl 7 rfl) ?_
          refine lv_iload hx hb dX3_fullestChoice_31 (lv_at hl 4 rfl) ?_
          replace he := b_some he
          obtain ⟨V3, h3, he⟩ := he
          refine kVV C hd hl.1 kw_X3_241 (by decide) cC24 rfl (c_X3_suppose l G ks hJ h3) ⟨Nat.le_of_ble_eq_true rfl, Nat.le_of_ble_eq_true rfl⟩ rfl (rest := []) rfl (Nat.le_of_ble_eq_true rfl) dX3_fullestChoice_33 (fun H locs hd => ?_)
          refine lv_aload_n hx hb dX3_fullestChoice_36 rfl (lv_at hl 0 rfl) ?_
          refine rgetf C hd (by decide) cC24 rfl tgX3 1 (by decide) uw200 rfl dX3_fullestChoice_37 ?_
          refine lv_iload_n hx hb dX3_fullestChoice_40 rfl (lv_at hl 3 rfl) ?_
          replace he := b_some he
          obtain ⟨V4, h4, he⟩ := he
          refine kVV C hd hl.1 kw_X3_139 (lt_moor (by decide)) (cC_moor (by decide)) rfl (c_X0_pass l G ks hJ (by decide) h4) ⟨Nat.le_of_ble_eq_true rfl, Nat.le_of_ble_eq_true rfl⟩ rfl (rest := []) rfl (Nat.le_of_ble_eq_true rfl) dX3_fullestChoice_41 (fun H locs hd => ?_)
          refine lv_iload_n hx hb dX3_fullestChoice_44 rfl (lv_at hl 1 rfl) ?_
          refine lv_iconst (v := 4) hx hb dX3_fullestChoice_45 (by decide) ?_
          refine lv_icmp_ne (tgt := 59) hx hb dX3_fullestChoice_46 (by decide) (fun hc5 => ?_) (fun hc5 => ?_)
          · replace he := i_f hc5 he
            refine lv_aload_n hx hb dX3_fullestChoice_59 rfl (lv_at hl 0 rfl) ?_
            refine rgetf C hd (by decide) cC24 rfl tgX3 1 (by decide) uw200 rfl dX3_fullestChoice_60 ?_
            replace he := b_some he
            obtain ⟨⟨r6, V6⟩, h6, he⟩ := he
            refine kVI C hd hl.1 kw_X3_126 (lt_moor (by decide)) (cC_moor (by decide)) rfl (c_X0_keptSet l G ks hJ (by decide) h6) ⟨Nat.le_of_ble_eq_true rfl, Nat.le_of_ble_eq_true rfl⟩ rfl (rest := []) rfl (Nat.le_of_ble_eq_true rfl) dX3_fullestChoice_63 (fun H locs hd => ?_)
            replace he := b_some he
            obtain ⟨⟨r7, V7⟩, h7, he⟩ := he
            refine kSI C hd hl.1 kw_X3_130 (c_J6_bitCount_0f7a4 l G ks hJ h7) ⟨Nat.le_of_ble_eq_true rfl, Nat.le_of_ble_eq_true rfl⟩ rfl (rest := []) rfl (Nat.le_of_ble_eq_true rfl) dX3_fullestChoice_66 (fun H locs hd => ?_)
            refine lv_istore (lv' := [(8, .int _), (0, .ref _), (1, .int _), (2, .int _), (3, .int _), (4, .int _), (5, .int _), (6, .int _), (7, .int _)]) hx hb dX3_fullestChoice_69 hl (by decide) rfl (fun ls hl => ?_)
            refine lv_iload hx hb dX3_fullestChoice_71 (lv_at hl 0 rfl) ?_
            refine lv_iload hx hb dX3_fullestChoice_73 (lv_at hl 7 rfl) ?_
            refine lv_icmp_le (tgt := 86) hx hb dX3_fullestChoice_75 (by decide) (fun hc8 => ?_) (fun hc8 => ?_)
            · replace he := i_t hc8 he
              refine lv_iinc (v := _ + 1) (lv' := [(7, .int _), (8, .int _), (0, .ref _), (1, .int _), (2, .int _), (3, .int _), (4, .int _), (5, .int _), (6, .int _)]) hx hb dX3_fullestChoice_86 hl (k := 8) rfl rfl (by decide) rfl (fun ls hl => ?_)
              refine lv_goto (tgt := 9) hx hb dX3_fullestChoice_89 (by decide) ?_
              exact ih9 _ _ _ _ _ _ _ _ _ _ _ (lv_sub hl [2, 3, 4, 5, 6, 7, 8, 0] rfl) hd he
            · replace he := i_f hc8 he
              refine lv_iload hx hb dX3_fullestChoice_78 (lv_at hl 8 rfl) ?_
              refine lv_istore (lv' := [(5, .int _), (8, .int _), (0, .ref _), (1, .int _), (2, .int _), (3, .int _), (4, .int _), (6, .int _), (7, .int _)]) hx hb dX3_fullestChoice_80 hl (by decide) rfl (fun ls hl => ?_)
              refine lv_iload hx hb dX3_fullestChoice_82 (lv_at hl 1 rfl) ?_
              refine lv_istore (lv' := [(6, .int _), (5, .int _), (8, .int _), (0, .ref _), (1, .int _), (2, .int _), (3, .int _), (4, .int _), (7, .int _)]) hx hb dX3_fullestChoice_84 hl (by decide) rfl (fun ls hl => ?_)
              refine lv_iinc (v := _ + 1) (lv' := [(7, .int _), (6, .int _), (5, .int _), (8, .int _), (0, .ref _), (1, .int _), (2, .int _), (3, .int _), (4, .int _)]) hx hb dX3_fullestChoice_86 hl (k := 8) rfl rfl (by decide) rfl (fun ls hl => ?_)
              refine lv_goto (tgt := 9) hx hb dX3_fullestChoice_89 (by decide) ?_
              exact ih9 _ _ _ _ _ _ _ _ _ _ _ (lv_sub hl [4, 5, 6, 7, 8, 2, 1, 0] rfl) hd he
          · replace he := i_t hc5 he
            refine lv_aload_n hx hb dX3_fullestChoice_49 rfl (lv_at hl 0 rfl) ?_
            refine rgetf C hd (by decide) cC24 rfl tgX3 1 (by decide) uw200 rfl dX3_fullestChoice_50 ?_
            replace he := b_some he
            obtain ⟨⟨r9, V9⟩, h9, he⟩ := he
            refine kVI C hd hl.1 kw_X3_145 (lt_moor (by decide)) (cC_moor (by decide)) rfl (c_X0_gladSet l G ks hJ (by decide) h9) ⟨Nat.le_of_ble_eq_true rfl, Nat.le_of_ble_eq_true rfl⟩ rfl (rest := []) rfl (Nat.le_of_ble_eq_true rfl) dX3_fullestChoice_53 (fun H locs hd => ?_)
            refine lv_goto (tgt := 66) hx hb dX3_fullestChoice_56 (by decide) ?_
            replace he := b_some he
            obtain ⟨⟨r10, V10⟩, h10, he⟩ := he
            refine kSI C hd hl.1 kw_X3_130 (c_J6_bitCount_0f7a4 l G ks hJ h10) ⟨Nat.le_of_ble_eq_true rfl, Nat.le_of_ble_eq_true rfl⟩ rfl (rest := []) rfl (Nat.le_of_ble_eq_true rfl) dX3_fullestChoice_66 (fun H locs hd => ?_)
            refine lv_istore (lv' := [(8, .int _), (0, .ref _), (1, .int _), (2, .int _), (3, .int _), (4, .int _), (5, .int _), (6, .int _), (7, .int _)]) hx hb dX3_fullestChoice_69 hl (by decide) rfl (fun ls hl => ?_)
            refine lv_iload hx hb dX3_fullestChoice_71 (lv_at hl 0 rfl) ?_
            refine lv_iload hx hb dX3_fullestChoice_73 (lv_at hl 7 rfl) ?_
            refine lv_icmp_le (tgt := 86) hx hb dX3_fullestChoice_75 (by decide) (fun hc11 => ?_) (fun hc11 => ?_)
            · replace he := i_t hc11 he
              refine lv_iinc (v := _ + 1) (lv' := [(7, .int _), (8, .int _), (0, .ref _), (1, .int _), (2, .int _), (3, .int _), (4, .int _), (5, .int _), (6, .int _)]) hx hb dX3_fullestChoice_86 hl (k := 8) rfl rfl (by decide) rfl (fun ls hl => ?_)
              refine lv_goto (tgt := 9) hx hb dX3_fullestChoice_89 (by decide) ?_
              exact ih9 _ _ _ _ _ _ _ _ _ _ _ (lv_sub hl [2, 3, 4, 5, 6, 7, 8, 0] rfl) hd he
            · replace he := i_f hc11 he
              refine lv_iload hx hb dX3_fullestChoice_78 (lv_at hl 8 rfl) ?_
              refine lv_istore (lv' := [(5, .int _), (8, .int _), (0, .ref _), (1, .int _), (2, .int _), (3, .int _), (4, .int _), (6, .int _), (7, .int _)]) hx hb dX3_fullestChoice_80 hl (by decide) rfl (fun ls hl => ?_)
              refine lv_iload hx hb dX3_fullestChoice_82 (lv_at hl 1 rfl) ?_
              refine lv_istore (lv' := [(6, .int _), (5, .int _), (8, .int _), (0, .ref _), (1, .int _), (2, .int _), (3, .int _), (4, .int _), (7, .int _)]) hx hb dX3_fullestChoice_84 hl (by decide) rfl (fun ls hl => ?_)
              refine lv_iinc (v := _ + 1) (lv' := [(7, .int _), (6, .int _), (5, .int _), (8, .int _), (0, .ref _), (1, .int _), (2, .int _), (3, .int _), (4, .int _)]) hx hb dX3_fullestChoice_86 hl (k := 8) rfl rfl (by decide) rfl (fun ls hl => ?_)
              refine lv_goto (tgt := 9) hx hb dX3_fullestChoice_89 (by decide) ?_
              exact ih9 _ _ _ _ _ _ _ _ _ _ _ (lv_sub hl [4, 5, 6, 7, 8, 2, 1, 0] rfl) hd he
  unfold f_X3_fullestChoice at he
  refine lv_iconst (v := 0) hx hb dX3_fullestChoice_0 (by decide) ?_
  refine lv_istore (lv' := [(5, .int _), (0, .ref _), (1, .int _), (2, .int _), (3, .int _), (4, .int _)]) hx hb dX3_fullestChoice_1 hl (by decide) rfl (fun ls hl => ?_)
  refine lv_iconst (v := (-1)) hx hb dX3_fullestChoice_3 (by decide) ?_
  refine lv_istore (lv' := [(6, .int _), (5, .int _), (0, .ref _), (1, .int _), (2, .int _), (3, .int _), (4, .int _)]) hx hb dX3_fullestChoice_4 hl (by decide) rfl (fun ls hl => ?_)
  refine lv_iconst (v := 0) hx hb dX3_fullestChoice_6 (by decide) ?_
  refine lv_istore (lv' := [(7, .int _), (6, .int _), (5, .int _), (0, .ref _), (1, .int _), (2, .int _), (3, .int _), (4, .int _)]) hx hb dX3_fullestChoice_7 hl (by decide) rfl (fun ls hl => ?_)
  exact L9 200 _ _ _ _ _ _ _ _ _ _ _ (lv_sub hl [3, 4, 5, 6, 7, 2, 1, 0] rfl) hd he
set_option maxRecDepth 100000 in
set_option maxHeartbeats 4000000 in
theorem c_X3_hope (l : Launch) (G : Gd) (ks : Ks) (hJ : Inj 37 G.2.2) {a1 : Int32} {a2 : Int32} {V V' : VV} {r : Int32} (he : f_X3_hope a1 a2 V = some (r, V')) : MI l 37 G (XC G ks) yX3_hope cX3_hope 3 6 137 [.ref (G.2.2 24), .int a1, .int a2] (cC G V) (cC G V') r := by
  refine walk_of (own := RX3) (by decide) rfl hJ (xs_C G ks) (Nat.le_of_ble_eq_true rfl) ?_
  intro p e s m below meth c C hr hlk ls hl hd
  have hl : lv_has ls 3 [(0, .ref (G.2.2 24)), (1, .int a1), (2, .int a2)] := hl
  obtain ⟨⟨hx, hb, hml, hown, hts⟩, -⟩ := id C
  unfold f_X3_hope at he
  refine lv_aload_n hx hb dX3_hope_0 rfl (lv_at hl 0 rfl) ?_
  refine rgetf C hd (by decide) cC24 rfl tgX3 0 (by decide) uw199 rfl dX3_hope_1 ?_
  refine lv_iload_n hx hb dX3_hope_4 rfl (lv_at hl 1 rfl) ?_
  replace he := b_some he
  obtain ⟨⟨r1, V1⟩, h1, he⟩ := he
  refine kVZ C hd hl.1 kw_X3_76 (lt_moor (by decide)) (cC_moor (by decide)) rfl (c_X0_has l G ks hJ (by decide) h1) ⟨Nat.le_of_ble_eq_true rfl, Nat.le_of_ble_eq_true rfl⟩ rfl (rest := []) rfl (Nat.le_of_ble_eq_true rfl) dX3_hope_5 (fun H locs hz1 hd => ?_)
  refine lv_if_eq (tgt := 21) hx hb dX3_hope_8 (by decide) (fun hc2 => ?_) (fun hc2 => ?_)
  · replace he := i_t hc2 he
    refine lv_aload_n hx hb dX3_hope_21 rfl (lv_at hl 0 rfl) ?_
    refine lv_ldc hx hb hown (hts _ uw226) dX3_hope_22 ?_
    replace he := b_some he
    obtain ⟨⟨r3, V3⟩, h3, he⟩ := he
    refine kVI C hd hl.1 kw_X3_46 (by decide) cC24 rfl (c_X3_finding l G ks hJ h3) ⟨Nat.le_of_ble_eq_true rfl, Nat.le_of_ble_eq_true rfl⟩ rfl (rest := []) rfl (Nat.le_of_ble_eq_true rfl) dX3_hope_24 (fun H locs hd => ?_)
    exact retIe (cf := (cC G)) C hr hlk hd he dX3_hope_27
  · replace he := i_f hc2 he
    refine lv_iload_n hx hb dX3_hope_11 rfl (lv_at hl 2 rfl) ?_
    refine lv_if_lt (tgt := 21) hx hb dX3_hope_12 (by decide) (fun hc4 => ?_) (fun hc4 => ?_)
    · replace he := i_t hc4 he
      refine lv_aload_n hx hb dX3_hope_21 rfl (lv_at hl 0 rfl) ?_
      refine lv_ldc hx hb hown (hts _ uw226) dX3_hope_22 ?_
      replace he := b_some he
      obtain ⟨⟨r5, V5⟩, h5, he⟩ := he
      refine kVI C hd hl.1 kw_X3_46 (by decide) cC24 rfl (c_X3_finding l G ks hJ h5) ⟨Nat.le_of_ble_eq_true rfl, Nat.le_of_ble_eq_true rfl⟩ rfl (rest := []) rfl (Nat.le_of_ble_eq_true rfl) dX3_hope_24 (fun H locs hd => ?_)
      exact retIe (cf := (cC G)) C hr hlk hd he dX3_hope_27
    · replace he := i_f hc4 he
      refine lv_iload_n hx hb dX3_hope_15 rfl (lv_at hl 2 rfl) ?_
      refine lv_bipush (v := 60) hx hb dX3_hope_16 (by decide) ?_
      refine lv_icmp_le (tgt := 28) hx hb dX3_hope_18 (by decide) (fun hc6 => ?_) (fun hc6 => ?_)
      · replace he := i_t hc6 he
        refine lv_aload_n hx hb dX3_hope_28 rfl (lv_at hl 0 rfl) ?_
        refine lv_iconst (v := 4) hx hb dX3_hope_29 (by decide) ?_
        refine lv_bipush (v := 16) hx hb dX3_hope_30 (by decide) ?_
        refine lv_iload_n hx hb dX3_hope_32 rfl (lv_at hl 2 rfl) ?_
        refine lv_iload_n hx hb dX3_hope_33 rfl (lv_at hl 1 rfl) ?_
        replace he := b_some he
        obtain ⟨⟨r7, V7⟩, h7, he⟩ := he
        refine kVI C hd hl.1 kw_X3_166 (by decide) cC24 rfl (c_X3_fullestChoice l G ks hJ h7) ⟨Nat.le_of_ble_eq_true rfl, Nat.le_of_ble_eq_true rfl⟩ rfl (rest := []) rfl (Nat.le_of_ble_eq_true rfl) dX3_hope_34 (fun H locs hd => ?_)
        exact retIe (cf := (cC G)) C hr hlk hd he dX3_hope_37
      · replace he := i_f hc6 he
        refine lv_aload_n hx hb dX3_hope_21 rfl (lv_at hl 0 rfl) ?_
        refine lv_ldc hx hb hown (hts _ uw226) dX3_hope_22 ?_
        replace he := b_some he
        obtain ⟨⟨r8, V8⟩, h8, he⟩ := he
        refine kVI C hd hl.1 kw_X3_46 (by decide) cC24 rfl (c_X3_finding l G ks hJ h8) ⟨Nat.le_of_ble_eq_true rfl, Nat.le_of_ble_eq_true rfl⟩ rfl (rest := []) rfl (Nat.le_of_ble_eq_true rfl) dX3_hope_24 (fun H locs hd => ?_)
        exact retIe (cf := (cC G)) C hr hlk hd he dX3_hope_27
set_option maxRecDepth 100000 in
set_option maxHeartbeats 4000000 in
theorem c_X3_more (l : Launch) (G : Gd) (ks : Ks) (hJ : Inj 37 G.2.2) {a1 : Int32} {V V' : VV} {r : Int32} (he : f_X3_more a1 V = some (r, V')) : MI l 37 G (XC G ks) yX3_more cX3_more 2 6 137 [.ref (G.2.2 24), .int a1] (cC G V) (cC G V') r := by
  refine walk_of (own := RX3) (by decide) rfl hJ (xs_C G ks) (Nat.le_of_ble_eq_true rfl) ?_
  intro p e s m below meth c C hr hlk ls hl hd
  have hl : lv_has ls 2 [(0, .ref (G.2.2 24)), (1, .int a1)] := hl
  obtain ⟨⟨hx, hb, hml, hown, hts⟩, -⟩ := id C
  unfold f_X3_more at he
  refine lv_iload_n hx hb dX3_more_0 rfl (lv_at hl 1 rfl) ?_
  refine lv_if_lt (tgt := 10) hx hb dX3_more_1 (by decide) (fun hc1 => ?_) (fun hc1 => ?_)
  · replace he := i_t hc1 he
    refine lv_aload_n hx hb dX3_more_10 rfl (lv_at hl 0 rfl) ?_
    refine lv_ldc hx hb hown (hts _ uw226) dX3_more_11 ?_
    replace he := b_some he
    obtain ⟨⟨r2, V2⟩, h2, he⟩ := he
    refine kVI C hd hl.1 kw_X3_46 (by decide) cC24 rfl (c_X3_finding l G ks hJ h2) ⟨Nat.le_of_ble_eq_true rfl, Nat.le_of_ble_eq_true rfl⟩ rfl (rest := []) rfl (Nat.le_of_ble_eq_true rfl) dX3_more_13 (fun H locs hd => ?_)
    exact retIe (cf := (cC G)) C hr hlk hd he dX3_more_16
  · replace he := i_f hc1 he
    refine lv_iload_n hx hb dX3_more_4 rfl (lv_at hl 1 rfl) ?_
    refine lv_bipush (v := 60) hx hb dX3_more_5 (by decide) ?_
    refine lv_icmp_le (tgt := 17) hx hb dX3_more_7 (by decide) (fun hc3 => ?_) (fun hc3 => ?_)
    · replace he := i_t hc3 he
      refine lv_aload_n hx hb dX3_more_17 rfl (lv_at hl 0 rfl) ?_
      refine lv_iconst (v := 5) hx hb dX3_more_18 (by decide) ?_
      refine lv_bipush (v := 24) hx hb dX3_more_19 (by decide) ?_
      refine lv_iload_n hx hb dX3_more_21 rfl (lv_at hl 1 rfl) ?_
      refine lv_iconst (v := (-1)) hx hb dX3_more_22 (by decide) ?_
      replace he := b_some he
      obtain ⟨⟨r4, V4⟩, h4, he⟩ := he
      refine kVI C hd hl.1 kw_X3_166 (by decide) cC24 rfl (c_X3_fullestChoice l G ks hJ h4) ⟨Nat.le_of_ble_eq_true rfl, Nat.le_of_ble_eq_true rfl⟩ rfl (rest := []) rfl (Nat.le_of_ble_eq_true rfl) dX3_more_23 (fun H locs hd => ?_)
      exact retIe (cf := (cC G)) C hr hlk hd he dX3_more_26
    · replace he := i_f hc3 he
      refine lv_aload_n hx hb dX3_more_10 rfl (lv_at hl 0 rfl) ?_
      refine lv_ldc hx hb hown (hts _ uw226) dX3_more_11 ?_
      replace he := b_some he
      obtain ⟨⟨r5, V5⟩, h5, he⟩ := he
      refine kVI C hd hl.1 kw_X3_46 (by decide) cC24 rfl (c_X3_finding l G ks hJ h5) ⟨Nat.le_of_ble_eq_true rfl, Nat.le_of_ble_eq_true rfl⟩ rfl (rest := []) rfl (Nat.le_of_ble_eq_true rfl) dX3_more_13 (fun H locs hd => ?_)
      exact retIe (cf := (cC G)) C hr hlk hd he dX3_more_16
set_option maxRecDepth 100000 in
set_option maxHeartbeats 4000000 in
theorem c_X3_best (l : Launch) (G : Gd) (ks : Ks) (hJ : Inj 37 G.2.2) {a1 : Int32} {V V' : VV} {r : Int32} (he : f_X3_best a1 V = some (r, V')) : MI l 37 G (XC G ks) yX3_best cX3_best 2 6 137 [.ref (G.2.2 24), .int a1] (cC G V) (cC G V') r := by
  refine walk_of (own := RX3) (by decide) rfl hJ (xs_C G ks) (Nat.le_of_ble_eq_true rfl) ?_
  intro p e s m below meth c C hr hlk ls hl hd
  have hl : lv_has ls 2 [(0, .ref (G.2.2 24)), (1, .int a1)] := hl
  obtain ⟨⟨hx, hb, hml, hown, hts⟩, -⟩ := id C
  unfold f_X3_best at he
  refine lv_iload_n hx hb dX3_best_0 rfl (lv_at hl 1 rfl) ?_
  refine lv_if_lt (tgt := 10) hx hb dX3_best_1 (by decide) (fun hc1 => ?_) (fun hc1 => ?_)
  · replace he := i_t hc1 he
    refine lv_aload_n hx hb dX3_best_10 rfl (lv_at hl 0 rfl) ?_
    refine lv_ldc hx hb hown (hts _ uw226) dX3_best_11 ?_
    replace he := b_some he
    obtain ⟨⟨r2, V2⟩, h2, he⟩ := he
    refine kVI C hd hl.1 kw_X3_46 (by decide) cC24 rfl (c_X3_finding l G ks hJ h2) ⟨Nat.le_of_ble_eq_true rfl, Nat.le_of_ble_eq_true rfl⟩ rfl (rest := []) rfl (Nat.le_of_ble_eq_true rfl) dX3_best_13 (fun H locs hd => ?_)
    exact retIe (cf := (cC G)) C hr hlk hd he dX3_best_16
  · replace he := i_f hc1 he
    refine lv_iload_n hx hb dX3_best_4 rfl (lv_at hl 1 rfl) ?_
    refine lv_bipush (v := 30) hx hb dX3_best_5 (by decide) ?_
    refine lv_icmp_le (tgt := 17) hx hb dX3_best_7 (by decide) (fun hc3 => ?_) (fun hc3 => ?_)
    · replace he := i_t hc3 he
      refine lv_aload_n hx hb dX3_best_17 rfl (lv_at hl 0 rfl) ?_
      refine lv_bipush (v := 6) hx hb dX3_best_18 (by decide) ?_
      refine lv_bipush (v := 36) hx hb dX3_best_20 (by decide) ?_
      refine lv_iload_n hx hb dX3_best_22 rfl (lv_at hl 1 rfl) ?_
      refine lv_iconst (v := (-1)) hx hb dX3_best_23 (by decide) ?_
      replace he := b_some he
      obtain ⟨⟨r4, V4⟩, h4, he⟩ := he
      refine kVI C hd hl.1 kw_X3_166 (by decide) cC24 rfl (c_X3_fullestChoice l G ks hJ h4) ⟨Nat.le_of_ble_eq_true rfl, Nat.le_of_ble_eq_true rfl⟩ rfl (rest := []) rfl (Nat.le_of_ble_eq_true rfl) dX3_best_24 (fun H locs hd => ?_)
      exact retIe (cf := (cC G)) C hr hlk hd he dX3_best_27
    · replace he := i_f hc3 he
      refine lv_aload_n hx hb dX3_best_10 rfl (lv_at hl 0 rfl) ?_
      refine lv_ldc hx hb hown (hts _ uw226) dX3_best_11 ?_
      replace he := b_some he
      obtain ⟨⟨r5, V5⟩, h5, he⟩ := he
      refine kVI C hd hl.1 kw_X3_46 (by decide) cC24 rfl (c_X3_finding l G ks hJ h5) ⟨Nat.le_of_ble_eq_true rfl, Nat.le_of_ble_eq_true rfl⟩ rfl (rest := []) rfl (Nat.le_of_ble_eq_true rfl) dX3_best_13 (fun H locs hd => ?_)
      exact retIe (cf := (cC G)) C hr hlk hd he dX3_best_16
set_option maxRecDepth 100000 in
set_option maxHeartbeats 4000000 in
theorem c_X2_append (l : Launch) (G : Gd) (ks : Ks) (hJ : Inj 37 G.2.2) {a1 : Int32} {a2 : Int32} {V V' : VV} (he : f_X2_append a1 a2 V = some V') : MV l 37 G (XC G ks) yX2_append cX2_append 4 0 0 [.ref (G.2.2 25), .int a1, .int a2] (cC G V) (cC G V') := by
  refine walk_of (own := RX2) (by decide) rfl hJ (xs_C G ks) (Nat.le_of_ble_eq_true rfl) ?_
  intro p e s m below meth c C hr hlk ls hl hd
  have hl : lv_has ls 4 [(0, .ref (G.2.2 25)), (1, .int a1), (2, .int a2)] := hl
  obtain ⟨⟨hx, hb, hml, hown, hts⟩, -⟩ := id C
  have L4 : ∀ (fuel : Nat), ∀ (x1 : Int32) (x3 : Int32) (V : VV) (H : Heap) (locs : List Loc) (ls : Array Slot), lv_has ls 4 [(0, .ref (G.2.2 25)), (1, .int x1), (3, .int x3)] → Dy 37 G (cC G V) s H locs → f_X2_append_L4 fuel x1 x3 V = some V' → W p l e (rmF 0 0) s m ([.ref (G.2.2 25), .int a1, .int a2] : List Value).toArray below meth c H locs 0 0 (MQ below (QV 37 G (cC G V')) ([.ref (G.2.2 25), .int a1, .int a2] : List Value).toArray s 0 0 (inA 37 G.2.2)) (F0 m 4 ls []) := by
    intro fuel
    induction fuel with
    | zero => intro x1 x3 V H locs ls hl hd he; simp [f_X2_append_L4] at he
    | succ n ih4 =>
      intro x1 x3 V H locs ls hl hd he
      rw [f_X2_append_L4] at he
      refine lv_iload_n hx hb dX2_append_4 rfl (lv_at hl 2 rfl) ?_
      refine lv_if_lt (tgt := 52) hx hb dX2_append_5 (by decide) (fun hc1 => ?_) (fun hc1 => ?_)
      · replace he := i_t hc1 he
        exact retVe (cf := (cC G)) C hr hlk hd he dX2_append_52
      · replace he := i_f hc1 he
        refine lv_aload_n hx hb dX2_append_8 rfl (lv_at hl 0 rfl) ?_
        refine rgetf C hd (by decide) cC25 rfl tgX2 0 (by decide) uw155 rfl dX2_append_9 ?_
        refine lv_bipush (v := 120) hx hb dX2_append_12 (by decide) ?_
        refine lv_icmp_ge (tgt := 52) hx hb dX2_append_14 (by decide) (fun hc2 => ?_) (fun hc2 => ?_)
        · replace he := i_t hc2 he
          exact retVe (cf := (cC G)) C hr hlk hd he dX2_append_52
        · replace he := i_f hc2 he
          refine lv_aload_n hx hb dX2_append_17 rfl (lv_at hl 0 rfl) ?_
          refine rgetf C hd (by decide) cC25 rfl tgX2 1 (by decide) uw157 rfl dX2_append_18 ?_
          refine lv_aload_n hx hb dX2_append_21 rfl (lv_at hl 0 rfl) ?_
          refine rgetf C hd (by decide) cC25 rfl tgX2 0 (by decide) uw155 rfl dX2_append_22 ?_
          refine lv_iload_n hx hb dX2_append_25 rfl (lv_at hl 1 rfl) ?_
          refine lv_bipush (v := 8) hx hb dX2_append_26 (by decide) ?_
          refine lv_iload_n hx hb dX2_append_28 rfl (lv_at hl 2 rfl) ?_
          refine lv_imul hx hb dX2_append_29 ?_
          refine lv_ishr hx hb dX2_append_30 ?_
          refine lv_sipush (v := 255) hx hb dX2_append_31 (by decide) ?_
          refine lv_iand hx hb dX2_append_34 ?_
          replace he := g_some he
          obtain ⟨hi3, he⟩ := he
          replace he := bv_ex he
          obtain ⟨V4, e4, he⟩ := he
          refine riast (cell' := (cC G) V4) C hd (by decide) cC26 hi3 (cC26_w e4) (cC_ne e4) dX2_append_35 (fun H locs hd => ?_)
          refine lv_aload_n hx hb dX2_append_36 rfl (lv_at hl 0 rfl) ?_
          refine lv_dup hx hb dX2_append_37 rfl ?_
          refine rgetf C hd (by decide) cC25 rfl tgX2 0 (by decide) uw155 rfl dX2_append_38 ?_
          refine lv_iconst (v := 1) hx hb dX2_append_41 (by decide) ?_
          refine lv_iadd hx hb dX2_append_42 ?_
          replace he := bv_ex he
          obtain ⟨V5, e5, he⟩ := he
          refine rputf (cell' := (cC G) V5) C hd (by decide) cC25 rfl tgX2 tyX2 tyX2_ok nmX2 0 (by decide) uw155 rfl (tyX2_ok 0 (by decide)) rfl rfl (Nat.le_of_ble_eq_true rfl) (cC25_w (by decide) e5) (cC_ne e5) dX2_append_43 (fun H locs hd => ?_)
          refine lv_iinc (v := _ + (-1)) (lv' := [(3, .int _), (0, .ref _), (1, .int _)]) hx hb dX2_append_46 hl (k := 2) rfl rfl (by decide) rfl (fun ls hl => ?_)
          refine lv_goto (tgt := 4) hx hb dX2_append_49 (by decide) ?_
          exact ih4 _ _ _ _ _ _ (lv_sub hl [1, 2, 0] rfl) hd he
  unfold f_X2_append at he
  refine lv_iload_n hx hb dX2_append_0 rfl (lv_at hl 2 rfl) ?_
  refine lv_iconst (v := 1) hx hb dX2_append_1 (by decide) ?_
  refine lv_isub hx hb dX2_append_2 ?_
  refine lv_istore_n (lv' := [(3, .int _), (0, .ref _), (1, .int _), (2, .int _)]) hx hb dX2_append_3 rfl hl (by decide) rfl (fun ls hl => ?_)
  exact L4 200 _ _ _ _ _ _ (lv_sub hl [1, 2, 0] rfl) hd he
set_option maxRecDepth 100000 in
set_option maxHeartbeats 4000000 in
theorem c_X3_feed (l : Launch) (G : Gd) (ks : Ks) (hJ : Inj 37 G.2.2) {a1 : Int32} {a2 : Int32} {V V' : VV} {r : Int32} (he : f_X3_feed a1 a2 V = some (r, V')) : MI l 37 G (XC G ks) yX3_feed cX3_feed 3 1 23 [.ref (G.2.2 24), .int a1, .int a2] (cC G V) (cC G V') r := by
  refine walk_of (own := RX3) (by decide) rfl hJ (xs_C G ks) (Nat.le_of_ble_eq_true rfl) ?_
  intro p e s m below meth c C hr hlk ls hl hd
  have hl : lv_has ls 3 [(0, .ref (G.2.2 24)), (1, .int a1), (2, .int a2)] := hl
  obtain ⟨⟨hx, hb, hml, hown, hts⟩, -⟩ := id C
  unfold f_X3_feed at he
  refine lv_iload_n hx hb dX3_feed_0 rfl (lv_at hl 2 rfl) ?_
  refine lv_iconst (v := 1) hx hb dX3_feed_1 (by decide) ?_
  refine lv_icmp_lt (tgt := 10) hx hb dX3_feed_2 (by decide) (fun hc1 => ?_) (fun hc1 => ?_)
  · replace he := i_t hc1 he
    refine lv_aload_n hx hb dX3_feed_10 rfl (lv_at hl 0 rfl) ?_
    refine lv_ldc hx hb hown (hts _ uw226) dX3_feed_11 ?_
    replace he := b_some he
    obtain ⟨⟨r2, V2⟩, h2, he⟩ := he
    refine kVI C hd hl.1 kw_X3_46 (by decide) cC24 rfl (c_X3_finding l G ks hJ h2) ⟨Nat.le_of_ble_eq_true rfl, Nat.le_of_ble_eq_true rfl⟩ rfl (rest := []) rfl (Nat.le_of_ble_eq_true rfl) dX3_feed_13 (fun H locs hd => ?_)
    exact retIe (cf := (cC G)) C hr hlk hd he dX3_feed_16
  · replace he := i_f hc1 he
    refine lv_iload_n hx hb dX3_feed_5 rfl (lv_at hl 2 rfl) ?_
    refine lv_iconst (v := 4) hx hb dX3_feed_6 (by decide) ?_
    refine lv_icmp_le (tgt := 17) hx hb dX3_feed_7 (by decide) (fun hc3 => ?_) (fun hc3 => ?_)
    · replace he := i_t hc3 he
      refine lv_aload_n hx hb dX3_feed_17 rfl (lv_at hl 0 rfl) ?_
      refine rgetf C hd (by decide) cC24 rfl tgX3 4 (by decide) uw203 rfl dX3_feed_18 ?_
      refine rgetf C hd (by decide) cC25 rfl tgX2 0 (by decide) uw156 rfl dX3_feed_21 ?_
      refine lv_bipush (v := 120) hx hb dX3_feed_24 (by decide) ?_
      refine lv_iload_n hx hb dX3_feed_26 rfl (lv_at hl 2 rfl) ?_
      refine lv_isub hx hb dX3_feed_27 ?_
      refine lv_icmp_le (tgt := 38) hx hb dX3_feed_28 (by decide) (fun hc4 => ?_) (fun hc4 => ?_)
      · replace he := i_t hc4 he
        refine lv_aload_n hx hb dX3_feed_38 rfl (lv_at hl 0 rfl) ?_
        refine rgetf C hd (by decide) cC24 rfl tgX3 4 (by decide) uw203 rfl dX3_feed_39 ?_
        refine lv_iload_n hx hb dX3_feed_42 rfl (lv_at hl 1 rfl) ?_
        refine lv_iload_n hx hb dX3_feed_43 rfl (lv_at hl 2 rfl) ?_
        replace he := b_some he
        obtain ⟨V5, h5, he⟩ := he
        refine kVV C hd hl.1 kw_X3_173 (by decide) cC25 rfl (c_X2_append l G ks hJ h5) ⟨Nat.le_of_ble_eq_true rfl, Nat.le_of_ble_eq_true rfl⟩ rfl (rest := []) rfl (Nat.le_of_ble_eq_true rfl) dX3_feed_44 (fun H locs hd => ?_)
        refine lv_aload_n hx hb dX3_feed_47 rfl (lv_at hl 0 rfl) ?_
        refine rgetf C hd (by decide) cC24 rfl tgX3 4 (by decide) uw203 rfl dX3_feed_48 ?_
        refine rgetf C hd (by decide) cC25 rfl tgX2 0 (by decide) uw156 rfl dX3_feed_51 ?_
        exact retIe (cf := (cC G)) C hr hlk hd he dX3_feed_54
      · replace he := i_f hc4 he
        refine lv_aload_n hx hb dX3_feed_31 rfl (lv_at hl 0 rfl) ?_
        refine lv_ldc hx hb hown (hts _ uw257) dX3_feed_32 ?_
        replace he := b_some he
        obtain ⟨⟨r6, V6⟩, h6, he⟩ := he
        refine kVI C hd hl.1 kw_X3_46 (by decide) cC24 rfl (c_X3_finding l G ks hJ h6) ⟨Nat.le_of_ble_eq_true rfl, Nat.le_of_ble_eq_true rfl⟩ rfl (rest := []) rfl (Nat.le_of_ble_eq_true rfl) dX3_feed_34 (fun H locs hd => ?_)
        exact retIe (cf := (cC G)) C hr hlk hd he dX3_feed_37
    · replace he := i_f hc3 he
      refine lv_aload_n hx hb dX3_feed_10 rfl (lv_at hl 0 rfl) ?_
      refine lv_ldc hx hb hown (hts _ uw226) dX3_feed_11 ?_
      replace he := b_some he
      obtain ⟨⟨r7, V7⟩, h7, he⟩ := he
      refine kVI C hd hl.1 kw_X3_46 (by decide) cC24 rfl (c_X3_finding l G ks hJ h7) ⟨Nat.le_of_ble_eq_true rfl, Nat.le_of_ble_eq_true rfl⟩ rfl (rest := []) rfl (Nat.le_of_ble_eq_true rfl) dX3_feed_13 (fun H locs hd => ?_)
      exact retIe (cf := (cC G)) C hr hlk hd he dX3_feed_16
set_option maxRecDepth 100000 in
set_option maxHeartbeats 4000000 in
theorem c_X3_wipe (l : Launch) (G : Gd) (ks : Ks) (hJ : Inj 37 G.2.2) {V V' : VV} {r : Int32} (he : f_X3_wipe V = some (r, V')) : MI l 37 G (XC G ks) yX3_wipe cX3_wipe 2 0 0 [.ref (G.2.2 24)] (cC G V) (cC G V') r := by
  refine walk_of (own := RX3) (by decide) rfl hJ (xs_C G ks) (Nat.le_of_ble_eq_true rfl) ?_
  intro p e s m below meth c C hr hlk ls hl hd
  have hl : lv_has ls 2 [(0, .ref (G.2.2 24))] := hl
  obtain ⟨⟨hx, hb, hml, hown, hts⟩, -⟩ := id C
  unfold f_X3_wipe at he
  refine lv_aload_n hx hb dX3_wipe_0 rfl (lv_at hl 0 rfl) ?_
  refine rgetf C hd (by decide) cC24 rfl tgX3 4 (by decide) uw203 rfl dX3_wipe_1 ?_
  refine rgetf C hd (by decide) cC25 rfl tgX2 0 (by decide) uw156 rfl dX3_wipe_4 ?_
  refine lv_istore_n (lv' := [(1, .int _), (0, .ref _)]) hx hb dX3_wipe_7 rfl hl (by decide) rfl (fun ls hl => ?_)
  refine lv_aload_n hx hb dX3_wipe_8 rfl (lv_at hl 1 rfl) ?_
  refine rgetf C hd (by decide) cC24 rfl tgX3 4 (by decide) uw203 rfl dX3_wipe_9 ?_
  refine lv_iconst (v := 0) hx hb dX3_wipe_12 (by decide) ?_
  replace he := bv_ex he
  obtain ⟨V1, e1, he⟩ := he
  refine rputf (cell' := (cC G) V1) C hd (by decide) cC25 rfl tgX2 tyX2 tyX2_ok nmX2 0 (by decide) uw156 rfl (tyX2_ok 0 (by decide)) rfl rfl (Nat.le_of_ble_eq_true rfl) (cC25_w (by decide) e1) (cC_ne e1) dX3_wipe_13 (fun H locs hd => ?_)
  refine lv_iload_n hx hb dX3_wipe_16 rfl (lv_at hl 0 rfl) ?_
  exact retIe (cf := (cC G)) C hr hlk hd he dX3_wipe_17
set_option maxRecDepth 100000 in
set_option maxHeartbeats 4000000 in
theorem c_X2_typeOf (l : Launch) (G : Gd) (ks : Ks) (hJ : Inj 37 G.2.2) {a1 : Int32} {V V' : VV} {r : Int32} (he : f_X2_typeOf a1 V = some (r, V')) : MI l 37 G (XC G ks) yX2_typeOf cX2_typeOf 1 0 0 [.int a1] (cC G V) (cC G V') r := by
  refine walk_of (own := RX2) (by decide) rfl hJ (xs_C G ks) (Nat.le_of_ble_eq_true rfl) ?_
  intro p e s m below meth c C hr hlk ls hl hd
  have hl : lv_has ls 1 [(0, .int a1)] := hl
  obtain ⟨⟨hx, hb, hml, hown, hts⟩, -⟩ := id C
  unfold f_X2_typeOf at he
  refine lv_iload_n hx hb dX2_typeOf_0 rfl (lv_at hl 0 rfl) ?_
  refine lv_bipush (v := 97) hx hb dX2_typeOf_1 (by decide) ?_
  refine lv_icmp_lt (tgt := 14) hx hb dX2_typeOf_3 (by decide) (fun hc1 => ?_) (fun hc1 => ?_)
  · replace he := i_t hc1 he
    refine lv_iload_n hx hb dX2_typeOf_14 rfl (lv_at hl 0 rfl) ?_
    refine lv_bipush (v := 48) hx hb dX2_typeOf_15 (by decide) ?_
    refine lv_icmp_lt (tgt := 28) hx hb dX2_typeOf_17 (by decide) (fun hc2 => ?_) (fun hc2 => ?_)
    · replace he := i_t hc2 he
      refine lv_iload_n hx hb dX2_typeOf_28 rfl (lv_at hl 0 rfl) ?_
      refine lv_bipush (v := 59) hx hb dX2_typeOf_29 (by decide) ?_
      refine lv_icmp_ne (tgt := 38) hx hb dX2_typeOf_31 (by decide) (fun hc3 => ?_) (fun hc3 => ?_)
      · replace he := i_f hc3 he
        refine lv_iconst (v := 4) hx hb dX2_typeOf_38 (by decide) ?_
        exact retIe (cf := (cC G)) C hr hlk hd he dX2_typeOf_39
      · replace he := i_t hc3 he
        refine lv_iconst (v := 3) hx hb dX2_typeOf_34 (by decide) ?_
        refine lv_goto (tgt := 39) hx hb dX2_typeOf_35 (by decide) ?_
        exact retIe (cf := (cC G)) C hr hlk hd he dX2_typeOf_39
    · replace he := i_f hc2 he
      refine lv_iload_n hx hb dX2_typeOf_20 rfl (lv_at hl 0 rfl) ?_
      refine lv_bipush (v := 57) hx hb dX2_typeOf_21 (by decide) ?_
      refine lv_icmp_gt (tgt := 28) hx hb dX2_typeOf_23 (by decide) (fun hc4 => ?_) (fun hc4 => ?_)
      · replace he := i_t hc4 he
        refine lv_iload_n hx hb dX2_typeOf_28 rfl (lv_at hl 0 rfl) ?_
        refine lv_bipush (v := 59) hx hb dX2_typeOf_29 (by decide) ?_
        refine lv_icmp_ne (tgt := 38) hx hb dX2_typeOf_31 (by decide) (fun hc5 => ?_) (fun hc5 => ?_)
        · replace he := i_f hc5 he
          refine lv_iconst (v := 4) hx hb dX2_typeOf_38 (by decide) ?_
          exact retIe (cf := (cC G)) C hr hlk hd he dX2_typeOf_39
        · replace he := i_t hc5 he
          refine lv_iconst (v := 3) hx hb dX2_typeOf_34 (by decide) ?_
          refine lv_goto (tgt := 39) hx hb dX2_typeOf_35 (by decide) ?_
          exact retIe (cf := (cC G)) C hr hlk hd he dX2_typeOf_39
      · replace he := i_f hc4 he
        refine lv_iconst (v := 2) hx hb dX2_typeOf_26 (by decide) ?_
        exact retIe (cf := (cC G)) C hr hlk hd he dX2_typeOf_27
  · replace he := i_f hc1 he
    refine lv_iload_n hx hb dX2_typeOf_6 rfl (lv_at hl 0 rfl) ?_
    refine lv_bipush (v := 122) hx hb dX2_typeOf_7 (by decide) ?_
    refine lv_icmp_gt (tgt := 14) hx hb dX2_typeOf_9 (by decide) (fun hc6 => ?_) (fun hc6 => ?_)
    · replace he := i_t hc6 he
      refine lv_iload_n hx hb dX2_typeOf_14 rfl (lv_at hl 0 rfl) ?_
      refine lv_bipush (v := 48) hx hb dX2_typeOf_15 (by decide) ?_
      refine lv_icmp_lt (tgt := 28) hx hb dX2_typeOf_17 (by decide) (fun hc7 => ?_) (fun hc7 => ?_)
      · replace he := i_t hc7 he
        refine lv_iload_n hx hb dX2_typeOf_28 rfl (lv_at hl 0 rfl) ?_
        refine lv_bipush (v := 59) hx hb dX2_typeOf_29 (by decide) ?_
        refine lv_icmp_ne (tgt := 38) hx hb dX2_typeOf_31 (by decide) (fun hc8 => ?_) (fun hc8 => ?_)
        · replace he := i_f hc8 he
          refine lv_iconst (v := 4) hx hb dX2_typeOf_38 (by decide) ?_
          exact retIe (cf := (cC G)) C hr hlk hd he dX2_typeOf_39
        · replace he := i_t hc8 he
          refine lv_iconst (v := 3) hx hb dX2_typeOf_34 (by decide) ?_
          refine lv_goto (tgt := 39) hx hb dX2_typeOf_35 (by decide) ?_
          exact retIe (cf := (cC G)) C hr hlk hd he dX2_typeOf_39
      · replace he := i_f hc7 he
        refine lv_iload_n hx hb dX2_typeOf_20 rfl (lv_at hl 0 rfl) ?_
        refine lv_bipush (v := 57) hx hb dX2_typeOf_21 (by decide) ?_
        refine lv_icmp_gt (tgt := 28) hx hb dX2_typeOf_23 (by decide) (fun hc9 => ?_) (fun hc9 => ?_)
        · replace he := i_t hc9 he
          refine lv_iload_n hx hb dX2_typeOf_28 rfl (lv_at hl 0 rfl) ?_
          refine lv_bipush (v := 59) hx hb dX2_typeOf_29 (by decide) ?_
          refine lv_icmp_ne (tgt := 38) hx hb dX2_typeOf_31 (by decide) (fun hc10 => ?_) (fun hc10 => ?_)
          · replace he := i_f hc10 he
            refine lv_iconst (v := 4) hx hb dX2_typeOf_38 (by decide) ?_
            exact retIe (cf := (cC G)) C hr hlk hd he dX2_typeOf_39
          · replace he := i_t hc10 he
            refine lv_iconst (v := 3) hx hb dX2_typeOf_34 (by decide) ?_
            refine lv_goto (tgt := 39) hx hb dX2_typeOf_35 (by decide) ?_
            exact retIe (cf := (cC G)) C hr hlk hd he dX2_typeOf_39
        · replace he := i_f hc9 he
          refine lv_iconst (v := 2) hx hb dX2_typeOf_26 (by decide) ?_
          exact retIe (cf := (cC G)) C hr hlk hd he dX2_typeOf_27
    · replace he := i_f hc6 he
      refine lv_iconst (v := 1) hx hb dX2_typeOf_12 (by decide) ?_
      exact retIe (cf := (cC G)) C hr hlk hd he dX2_typeOf_13
set_option maxRecDepth 100000 in
set_option maxHeartbeats 4000000 in
theorem c_X2_weigh (l : Launch) (G : Gd) (ks : Ks) (hJ : Inj 37 G.2.2) {V V' : VV} (he : f_X2_weigh V = some V') : MV l 37 G (XC G ks) yX2_weigh cX2_weigh 2 1 30 [.ref (G.2.2 25)] (cC G V) (cC G V') := by
  refine walk_of (own := RX2) (by decide) rfl hJ (xs_C G ks) (Nat.le_of_ble_eq_true rfl) ?_
  intro p e s m below meth c C hr hlk ls hl hd
  have hl : lv_has ls 2 [(0, .ref (G.2.2 25))] := hl
  obtain ⟨⟨hx, hb, hml, hown, hts⟩, -⟩ := id C
  have L10 : ∀ (fuel : Nat), ∀ (x1 : Int32) (V : VV) (H : Heap) (locs : List Loc) (ls : Array Slot), lv_has ls 2 [(0, .ref (G.2.2 25)), (1, .int x1)] → Dy 37 G (cC G V) s H locs → f_X2_weigh_L10 fuel x1 V = some V' → W p l e (rmF 1 30) s m ([.ref (G.2.2 25)] : List Value).toArray below meth c H locs 0 0 (MQ below (QV 37 G (cC G V')) ([.ref (G.2.2 25)] : List Value).toArray s 0 0 (inA 37 G.2.2)) (F0 m 10 ls []) := by
    intro fuel
    induction fuel with
    | zero => intro x1 V H locs ls hl hd he; simp [f_X2_weigh_L10] at he
    | succ n ih10 =>
      intro x1 V H locs ls hl hd he
      rw [f_X2_weigh_L10] at he
      refine lv_iload_n hx hb dX2_weigh_10 rfl (lv_at hl 1 rfl) ?_
      refine lv_aload_n hx hb dX2_weigh_11 rfl (lv_at hl 0 rfl) ?_
      refine rgetf C hd (by decide) cC25 rfl tgX2 4 (by decide) uw160 rfl dX2_weigh_12 ?_
      refine lv_icmp_ge (tgt := 51) hx hb dX2_weigh_15 (by decide) (fun hc2 => ?_) (fun hc2 => ?_)
      · replace he := i_t hc2 he
        exact retVe (cf := (cC G)) C hr hlk hd he dX2_weigh_51
      · replace he := i_f hc2 he
        refine lv_aload_n hx hb dX2_weigh_18 rfl (lv_at hl 0 rfl) ?_
        refine lv_aload_n hx hb dX2_weigh_19 rfl (lv_at hl 0 rfl) ?_
        refine rgetf C hd (by decide) cC25 rfl tgX2 5 (by decide) uw161 rfl dX2_weigh_20 ?_
        refine lv_bipush (v := 10) hx hb dX2_weigh_23 (by decide) ?_
        refine lv_imul hx hb dX2_weigh_25 ?_
        refine lv_aload_n hx hb dX2_weigh_26 rfl (lv_at hl 0 rfl) ?_
        refine rgetf C hd (by decide) cC25 rfl tgX2 1 (by decide) uw157 rfl dX2_weigh_27 ?_
        refine lv_iload_n hx hb dX2_weigh_30 rfl (lv_at hl 1 rfl) ?_
        replace he := g_some he
        obtain ⟨hi3, he⟩ := he
        refine riald C hd (by decide) cC26 hi3 dX2_weigh_31 ?_
        refine lv_iadd hx hb dX2_weigh_32 ?_
        refine lv_bipush (v := 48) hx hb dX2_weigh_33 (by decide) ?_
        refine lv_isub hx hb dX2_weigh_35 ?_
        refine lv_sipush (v := 1000) hx hb dX2_weigh_36 (by decide) ?_
        refine va_mmin hx hb (hml.trans hl.1.symm) hown (hts _ mw_l) (hts _ mw_s) (hts _ mw_i) (hts _ mw_c) (Nat.le_of_ble_eq_true rfl) (Nat.le_of_ble_eq_true rfl) (Nat.zero_le _) (Nat.zero_le _) dX2_weigh_39 ?_
        replace he := bv_ex he
        obtain ⟨V4, e4, he⟩ := he
        refine rputf (cell' := (cC G) V4) C hd (by decide) cC25 rfl tgX2 tyX2 tyX2_ok nmX2 5 (by decide) uw161 rfl (tyX2_ok 5 (by decide)) rfl rfl (Nat.le_of_ble_eq_true rfl) (cC25_w (by decide) e4) (cC_ne e4) dX2_weigh_42 (fun H locs hd => ?_)
        refine lv_iinc (v := _ + 1) (lv' := [(1, .int _), (0, .ref _)]) hx hb dX2_weigh_45 hl (k := 1) rfl rfl (by decide) rfl (fun ls hl => ?_)
        refine lv_goto (tgt := 10) hx hb dX2_weigh_48 (by decide) ?_
        exact ih10 _ _ _ _ _ (lv_sub hl [1, 0] rfl) hd he
  unfold f_X2_weigh at he
  refine lv_aload_n hx hb dX2_weigh_0 rfl (lv_at hl 0 rfl) ?_
  refine lv_iconst (v := 0) hx hb dX2_weigh_1 (by decide) ?_
  replace he := bv_ex he
  obtain ⟨V1, e1, he⟩ := he
  refine rputf (cell' := (cC G) V1) C hd (by decide) cC25 rfl tgX2 tyX2 tyX2_ok nmX2 5 (by decide) uw161 rfl (tyX2_ok 5 (by decide)) rfl rfl (Nat.le_of_ble_eq_true rfl) (cC25_w (by decide) e1) (cC_ne e1) dX2_weigh_2 (fun H locs hd => ?_)
  refine lv_aload_n hx hb dX2_weigh_5 rfl (lv_at hl 0 rfl) ?_
  refine rgetf C hd (by decide) cC25 rfl tgX2 3 (by decide) uw159 rfl dX2_weigh_6 ?_
  refine lv_istore_n (lv' := [(1, .int _), (0, .ref _)]) hx hb dX2_weigh_9 rfl hl (by decide) rfl (fun ls hl => ?_)
  exact L10 200 _ _ _ _ _ (lv_sub hl [1, 0] rfl) hd he
set_option maxRecDepth 100000 in
set_option maxHeartbeats 4000000 in
theorem c_X2_look (l : Launch) (G : Gd) (ks : Ks) (hJ : Inj 37 G.2.2) {V V' : VV} (he : f_X2_look V = some V') : MV l 37 G (XC G ks) yX2_look cX2_look 1 2 51 [.ref (G.2.2 25)] (cC G V) (cC G V') := by
  refine walk_of (own := RX2) (by decide) rfl hJ (xs_C G ks) (Nat.le_of_ble_eq_true rfl) ?_
  intro p e s m below meth c C hr hlk ls hl hd
  have hl : lv_has ls 1 [(0, .ref (G.2.2 25))] := hl
  obtain ⟨⟨hx, hb, hml, hown, hts⟩, -⟩ := id C
  have L113 : ∀ (fuel : Nat), ∀ (V : VV) (H : Heap) (locs : List Loc) (ls : Array Slot), lv_has ls 1 [(0, .ref (G.2.2 25))] → Dy 37 G (cC G V) s H locs → f_X2_look_L113 fuel  V = some V' → W p l e (rmF 2 51) s m ([.ref (G.2.2 25)] : List Value).toArray below meth c H locs 0 0 (MQ below (QV 37 G (cC G V')) ([.ref (G.2.2 25)] : List Value).toArray s 0 0 (inA 37 G.2.2)) (F0 m 113 ls []) := by
    intro fuel
    induction fuel with
    | zero => intro  V H locs ls hl hd he; simp [f_X2_look_L113] at he
    | succ n ih113 =>
      intro  V H locs ls hl hd he
      rw [f_X2_look_L113] at he
      refine lv_aload_n hx hb dX2_look_113 rfl (lv_at hl 0 rfl) ?_
      refine rgetf C hd (by decide) cC25 rfl tgX2 4 (by decide) uw160 rfl dX2_look_114 ?_
      refine lv_aload_n hx hb dX2_look_117 rfl (lv_at hl 0 rfl) ?_
      refine rgetf C hd (by decide) cC25 rfl tgX2 0 (by decide) uw155 rfl dX2_look_118 ?_
      refine lv_icmp_ge (tgt := 156) hx hb dX2_look_121 (by decide) (fun hc9 => ?_) (fun hc9 => ?_)
      · replace he := i_t hc9 he
        refine lv_aload_n hx hb dX2_look_156 rfl (lv_at hl 0 rfl) ?_
        refine rgetf C hd (by decide) cC25 rfl tgX2 2 (by decide) uw158 rfl dX2_look_157 ?_
        refine lv_iconst (v := 2) hx hb dX2_look_160 (by decide) ?_
        refine lv_icmp_ne (tgt := 168) hx hb dX2_look_161 (by decide) (fun hc10 => ?_) (fun hc10 => ?_)
        · replace he := i_f hc10 he
          exact retVe (cf := (cC G)) C hr hlk hd he dX2_look_168
        · replace he := i_t hc10 he
          refine lv_aload_n hx hb dX2_look_164 rfl (lv_at hl 0 rfl) ?_
          replace he := b_some he
          obtain ⟨V11, h11, he⟩ := he
          refine kVV C hd hl.1 kw_X2_131 (by decide) cC25 rfl (c_X2_weigh l G ks hJ h11) ⟨Nat.le_of_ble_eq_true rfl, Nat.le_of_ble_eq_true rfl⟩ rfl (rest := []) rfl (Nat.le_of_ble_eq_true rfl) dX2_look_165 (fun H locs hd => ?_)
          exact retVe (cf := (cC G)) C hr hlk hd he dX2_look_168
      · replace he := i_f hc9 he
        refine lv_aload_n hx hb dX2_look_124 rfl (lv_at hl 0 rfl) ?_
        refine rgetf C hd (by decide) cC25 rfl tgX2 1 (by decide) uw157 rfl dX2_look_125 ?_
        refine lv_aload_n hx hb dX2_look_128 rfl (lv_at hl 0 rfl) ?_
        refine rgetf C hd (by decide) cC25 rfl tgX2 4 (by decide) uw160 rfl dX2_look_129 ?_
        replace he := g_some he
        obtain ⟨hi12, he⟩ := he
        refine riald C hd (by decide) cC26 hi12 dX2_look_132 ?_
        replace he := b_some he
        obtain ⟨⟨r13, V13⟩, h13, he⟩ := he
        refine kSI C hd hl.1 kw_X2_127 (c_X2_typeOf l G ks hJ h13) ⟨Nat.le_of_ble_eq_true rfl, Nat.le_of_ble_eq_true rfl⟩ rfl (rest := []) rfl (Nat.le_of_ble_eq_true rfl) dX2_look_133 (fun H locs hd => ?_)
        refine lv_aload_n hx hb dX2_look_136 rfl (lv_at hl 0 rfl) ?_
        refine rgetf C hd (by decide) cC25 rfl tgX2 2 (by decide) uw158 rfl dX2_look_137 ?_
        refine lv_icmp_ne (tgt := 156) hx hb dX2_look_140 (by decide) (fun hc14 => ?_) (fun hc14 => ?_)
        · replace he := i_f hc14 he
          refine lv_aload_n hx hb dX2_look_156 rfl (lv_at hl 0 rfl) ?_
          refine rgetf C hd (by decide) cC25 rfl tgX2 2 (by decide) uw158 rfl dX2_look_157 ?_
          refine lv_iconst (v := 2) hx hb dX2_look_160 (by decide) ?_
          refine lv_icmp_ne (tgt := 168) hx hb dX2_look_161 (by decide) (fun hc15 => ?_) (fun hc15 => ?_)
          · replace he := i_f hc15 he
            exact retVe (cf := (cC G)) C hr hlk hd he dX2_look_168
          · replace he := i_t hc15 he
            refine lv_aload_n hx hb dX2_look_164 rfl (lv_at hl 0 rfl) ?_
            replace he := b_some he
            obtain ⟨V16, h16, he⟩ := he
            refine kVV C hd hl.1 kw_X2_131 (by decide) cC25 rfl (c_X2_weigh l G ks hJ h16) ⟨Nat.le_of_ble_eq_true rfl, Nat.le_of_ble_eq_true rfl⟩ rfl (rest := []) rfl (Nat.le_of_ble_eq_true rfl) dX2_look_165 (fun H locs hd => ?_)
            exact retVe (cf := (cC G)) C hr hlk hd he dX2_look_168
        · replace he := i_t hc14 he
          refine lv_aload_n hx hb dX2_look_143 rfl (lv_at hl 0 rfl) ?_
          refine lv_dup hx hb dX2_look_144 rfl ?_
          refine rgetf C hd (by decide) cC25 rfl tgX2 4 (by decide) uw160 rfl dX2_look_145 ?_
          refine lv_iconst (v := 1) hx hb dX2_look_148 (by decide) ?_
          refine lv_iadd hx hb dX2_look_149 ?_
          replace he := bv_ex he
          obtain ⟨V17, e17, he⟩ := he
          refine rputf (cell' := (cC G) V17) C hd (by decide) cC25 rfl tgX2 tyX2 tyX2_ok nmX2 4 (by decide) uw160 rfl (tyX2_ok 4 (by decide)) rfl rfl (Nat.le_of_ble_eq_true rfl) (cC25_w (by decide) e17) (cC_ne e17) dX2_look_150 (fun H locs hd => ?_)
          refine lv_goto (tgt := 113) hx hb dX2_look_153 (by decide) ?_
          exact ih113  _ _ _ _ (lv_sub hl [0] rfl) hd he
  have L8 : ∀ (fuel : Nat), ∀ (V : VV) (H : Heap) (locs : List Loc) (ls : Array Slot), lv_has ls 1 [(0, .ref (G.2.2 25))] → Dy 37 G (cC G V) s H locs → f_X2_look_L8 fuel  V = some V' → W p l e (rmF 2 51) s m ([.ref (G.2.2 25)] : List Value).toArray below meth c H locs 0 0 (MQ below (QV 37 G (cC G V')) ([.ref (G.2.2 25)] : List Value).toArray s 0 0 (inA 37 G.2.2)) (F0 m 8 ls []) := by
    intro fuel
    induction fuel with
    | zero => intro  V H locs ls hl hd he; simp [f_X2_look_L8] at he
    | succ n ih8 =>
      intro  V H locs ls hl hd he
      rw [f_X2_look_L8] at he
      refine lv_aload_n hx hb dX2_look_8 rfl (lv_at hl 0 rfl) ?_
      refine rgetf C hd (by decide) cC25 rfl tgX2 3 (by decide) uw159 rfl dX2_look_9 ?_
      refine lv_aload_n hx hb dX2_look_12 rfl (lv_at hl 0 rfl) ?_
      refine rgetf C hd (by decide) cC25 rfl tgX2 0 (by decide) uw155 rfl dX2_look_13 ?_
      refine lv_icmp_ge (tgt := 46) hx hb dX2_look_16 (by decide) (fun hc2 => ?_) (fun hc2 => ?_)
      · replace he := i_t hc2 he
        refine lv_aload_n hx hb dX2_look_46 rfl (lv_at hl 0 rfl) ?_
        refine rgetf C hd (by decide) cC25 rfl tgX2 3 (by decide) uw159 rfl dX2_look_47 ?_
        refine lv_aload_n hx hb dX2_look_50 rfl (lv_at hl 0 rfl) ?_
        refine rgetf C hd (by decide) cC25 rfl tgX2 0 (by decide) uw155 rfl dX2_look_51 ?_
        refine lv_icmp_lt (tgt := 71) hx hb dX2_look_54 (by decide) (fun hc3 => ?_) (fun hc3 => ?_)
        · replace he := i_t hc3 he
          refine lv_aload_n hx hb dX2_look_71 rfl (lv_at hl 0 rfl) ?_
          refine lv_aload_n hx hb dX2_look_72 rfl (lv_at hl 0 rfl) ?_
          refine rgetf C hd (by decide) cC25 rfl tgX2 1 (by decide) uw157 rfl dX2_look_73 ?_
          refine lv_aload_n hx hb dX2_look_76 rfl (lv_at hl 0 rfl) ?_
          refine rgetf C hd (by decide) cC25 rfl tgX2 3 (by decide) uw159 rfl dX2_look_77 ?_
          replace he := g_some he
          obtain ⟨hi4, he⟩ := he
          refine riald C hd (by decide) cC26 hi4 dX2_look_80 ?_
          replace he := b_some he
          obtain ⟨⟨r5, V5⟩, h5, he⟩ := he
          refine kSI C hd hl.1 kw_X2_127 (c_X2_typeOf l G ks hJ h5) ⟨Nat.le_of_ble_eq_true rfl, Nat.le_of_ble_eq_true rfl⟩ rfl (rest := [.ref _]) rfl (Nat.le_of_ble_eq_true rfl) dX2_look_81 (fun H locs hd => ?_)
          replace he := bv_ex he
          obtain ⟨V6, e6, he⟩ := he
          refine rputf (cell' := (cC G) V6) C hd (by decide) cC25 rfl tgX2 tyX2 tyX2_ok nmX2 2 (by decide) uw158 rfl (tyX2_ok 2 (by decide)) rfl rfl (Nat.le_of_ble_eq_true rfl) (cC25_w (by decide) e6) (cC_ne e6) dX2_look_84 (fun H locs hd => ?_)
          refine lv_aload_n hx hb dX2_look_87 rfl (lv_at hl 0 rfl) ?_
          refine lv_aload_n hx hb dX2_look_88 rfl (lv_at hl 0 rfl) ?_
          refine rgetf C hd (by decide) cC25 rfl tgX2 3 (by decide) uw159 rfl dX2_look_89 ?_
          refine lv_iconst (v := 1) hx hb dX2_look_92 (by decide) ?_
          refine lv_iadd hx hb dX2_look_93 ?_
          replace he := bv_ex he
          obtain ⟨V7, e7, he⟩ := he
          refine rputf (cell' := (cC G) V7) C hd (by decide) cC25 rfl tgX2 tyX2 tyX2_ok nmX2 4 (by decide) uw160 rfl (tyX2_ok 4 (by decide)) rfl rfl (Nat.le_of_ble_eq_true rfl) (cC25_w (by decide) e7) (cC_ne e7) dX2_look_94 (fun H locs hd => ?_)
          refine lv_aload_n hx hb dX2_look_97 rfl (lv_at hl 0 rfl) ?_
          refine rgetf C hd (by decide) cC25 rfl tgX2 2 (by decide) uw158 rfl dX2_look_98 ?_
          refine lv_iconst (v := 1) hx hb dX2_look_101 (by decide) ?_
          refine lv_icmp_eq (tgt := 113) hx hb dX2_look_102 (by decide) (fun hc8 => ?_) (fun hc8 => ?_)
          · replace he := i_t hc8 he
            exact L113 200  _ _ _ _ (lv_sub hl [0] rfl) hd he
          · replace he := i_f hc8 he
            refine lv_aload_n hx hb dX2_look_105 rfl (lv_at hl 0 rfl) ?_
            refine rgetf C hd (by decide) cC25 rfl tgX2 2 (by decide) uw158 rfl dX2_look_106 ?_
            refine lv_iconst (v := 2) hx hb dX2_look_109 (by decide) ?_
            refine lv_icmp_ne (tgt := 156) hx hb dX2_look_110 (by decide) (fun hc18 => ?_) (fun hc18 => ?_)
            · replace he := i_f hc18 he
              refine lv_aload_n hx hb dX2_look_156 rfl (lv_at hl 0 rfl) ?_
              refine rgetf C hd (by decide) cC25 rfl tgX2 2 (by decide) uw158 rfl dX2_look_157 ?_
              refine lv_iconst (v := 2) hx hb dX2_look_160 (by decide) ?_
              refine lv_icmp_ne (tgt := 168) hx hb dX2_look_161 (by decide) (fun hc19 => ?_) (fun hc19 => ?_)
              · replace he := i_f hc19 he
                exact retVe (cf := (cC G)) C hr hlk hd he dX2_look_168
              · replace he := i_t hc19 he
                refine lv_aload_n hx hb dX2_look_164 rfl (lv_at hl 0 rfl) ?_
                replace he := b_some he
                obtain ⟨V20, h20, he⟩ := he
                refine kVV C hd hl.1 kw_X2_131 (by decide) cC25 rfl (c_X2_weigh l G ks hJ h20) ⟨Nat.le_of_ble_eq_true rfl, Nat.le_of_ble_eq_true rfl⟩ rfl (rest := []) rfl (Nat.le_of_ble_eq_true rfl) dX2_look_165 (fun H locs hd => ?_)
                exact retVe (cf := (cC G)) C hr hlk hd he dX2_look_168
            · replace he := i_t hc18 he
              exact L113 200  _ _ _ _ (lv_sub hl [0] rfl) hd he
        · replace he := i_f hc3 he
          refine lv_aload_n hx hb dX2_look_57 rfl (lv_at hl 0 rfl) ?_
          refine lv_iconst (v := 0) hx hb dX2_look_58 (by decide) ?_
          replace he := bv_ex he
          obtain ⟨V21, e21, he⟩ := he
          refine rputf (cell' := (cC G) V21) C hd (by decide) cC25 rfl tgX2 tyX2 tyX2_ok nmX2 2 (by decide) uw158 rfl (tyX2_ok 2 (by decide)) rfl rfl (Nat.le_of_ble_eq_true rfl) (cC25_w (by decide) e21) (cC_ne e21) dX2_look_59 (fun H locs hd => ?_)
          refine lv_aload_n hx hb dX2_look_62 rfl (lv_at hl 0 rfl) ?_
          refine lv_aload_n hx hb dX2_look_63 rfl (lv_at hl 0 rfl) ?_
          refine rgetf C hd (by decide) cC25 rfl tgX2 3 (by decide) uw159 rfl dX2_look_64 ?_
          replace he := bv_ex he
          obtain ⟨V22, e22, he⟩ := he
          refine rputf (cell' := (cC G) V22) C hd (by decide) cC25 rfl tgX2 tyX2 tyX2_ok nmX2 4 (by decide) uw160 rfl (tyX2_ok 4 (by decide)) rfl rfl (Nat.le_of_ble_eq_true rfl) (cC25_w (by decide) e22) (cC_ne e22) dX2_look_67 (fun H locs hd => ?_)
          exact retVe (cf := (cC G)) C hr hlk hd he dX2_look_70
      · replace he := i_f hc2 he
        refine lv_aload_n hx hb dX2_look_19 rfl (lv_at hl 0 rfl) ?_
        refine rgetf C hd (by decide) cC25 rfl tgX2 1 (by decide) uw157 rfl dX2_look_20 ?_
        refine lv_aload_n hx hb dX2_look_23 rfl (lv_at hl 0 rfl) ?_
        refine rgetf C hd (by decide) cC25 rfl tgX2 3 (by decide) uw159 rfl dX2_look_24 ?_
        replace he := g_some he
        obtain ⟨hi23, he⟩ := he
        refine riald C hd (by decide) cC26 hi23 dX2_look_27 ?_
        refine lv_bipush (v := 32) hx hb dX2_look_28 (by decide) ?_
        refine lv_icmp_ne (tgt := 46) hx hb dX2_look_30 (by decide) (fun hc24 => ?_) (fun hc24 => ?_)
        · replace he := i_f hc24 he
          refine lv_aload_n hx hb dX2_look_46 rfl (lv_at hl 0 rfl) ?_
          refine rgetf C hd (by decide) cC25 rfl tgX2 3 (by decide) uw159 rfl dX2_look_47 ?_
          refine lv_aload_n hx hb dX2_look_50 rfl (lv_at hl 0 rfl) ?_
          refine rgetf C hd (by decide) cC25 rfl tgX2 0 (by decide) uw155 rfl dX2_look_51 ?_
          refine lv_icmp_lt (tgt := 71) hx hb dX2_look_54 (by decide) (fun hc25 => ?_) (fun hc25 => ?_)
          · replace he := i_t hc25 he
            refine lv_aload_n hx hb dX2_look_71 rfl (lv_at hl 0 rfl) ?_
            refine lv_aload_n hx hb dX2_look_72 rfl (lv_at hl 0 rfl) ?_
            refine rgetf C hd (by decide) cC25 rfl tgX2 1 (by decide) uw157 rfl dX2_look_73 ?_
            refine lv_aload_n hx hb dX2_look_76 rfl (lv_at hl 0 rfl) ?_
            refine rgetf C hd (by decide) cC25 rfl tgX2 3 (by decide) uw159 rfl dX2_look_77 ?_
            replace he := g_some he
            obtain ⟨hi26, he⟩ := he
            refine riald C hd (by decide) cC26 hi26 dX2_look_80 ?_
            replace he := b_some he
            obtain ⟨⟨r27, V27⟩, h27, he⟩ := he
            refine kSI C hd hl.1 kw_X2_127 (c_X2_typeOf l G ks hJ h27) ⟨Nat.le_of_ble_eq_true rfl, Nat.le_of_ble_eq_true rfl⟩ rfl (rest := [.ref _]) rfl (Nat.le_of_ble_eq_true rfl) dX2_look_81 (fun H locs hd => ?_)
            replace he := bv_ex he
            obtain ⟨V28, e28, he⟩ := he
            refine rputf (cell' := (cC G) V28) C hd (by decide) cC25 rfl tgX2 tyX2 tyX2_ok nmX2 2 (by decide) uw158 rfl (tyX2_ok 2 (by decide)) rfl rfl (Nat.le_of_ble_eq_true rfl) (cC25_w (by decide) e28) (cC_ne e28) dX2_look_84 (fun H locs hd => ?_)
            refine lv_aload_n hx hb dX2_look_87 rfl (lv_at hl 0 rfl) ?_
            refine lv_aload_n hx hb dX2_look_88 rfl (lv_at hl 0 rfl) ?_
            refine rgetf C hd (by decide) cC25 rfl tgX2 3 (by decide) uw159 rfl dX2_look_89 ?_
            refine lv_iconst (v := 1) hx hb dX2_look_92 (by decide) ?_
            refine lv_iadd hx hb dX2_look_93 ?_
            replace he := bv_ex he
            obtain ⟨V29, e29, he⟩ := he
            refine rputf (cell' := (cC G) V29) C hd (by decide) cC25 rfl tgX2 tyX2 tyX2_ok nmX2 4 (by decide) uw160 rfl (tyX2_ok 4 (by decide)) rfl rfl (Nat.le_of_ble_eq_true rfl) (cC25_w (by decide) e29) (cC_ne e29) dX2_look_94 (fun H locs hd => ?_)
            refine lv_aload_n hx hb dX2_look_97 rfl (lv_at hl 0 rfl) ?_
            refine rgetf C hd (by decide) cC25 rfl tgX2 2 (by decide) uw158 rfl dX2_look_98 ?_
            refine lv_iconst (v := 1) hx hb dX2_look_101 (by decide) ?_
            refine lv_icmp_eq (tgt := 113) hx hb dX2_look_102 (by decide) (fun hc30 => ?_) (fun hc30 => ?_)
            · replace he := i_t hc30 he
              exact L113 200  _ _ _ _ (lv_sub hl [0] rfl) hd he
            · replace he := i_f hc30 he
              refine lv_aload_n hx hb dX2_look_105 rfl (lv_at hl 0 rfl) ?_
              refine rgetf C hd (by decide) cC25 rfl tgX2 2 (by decide) uw158 rfl dX2_look_106 ?_
              refine lv_iconst (v := 2) hx hb dX2_look_109 (by decide) ?_
              refine lv_icmp_ne (tgt := 156) hx hb dX2_look_110 (by decide) (fun hc31 => ?_) (fun hc31 => ?_)
              · replace he := i_f hc31 he
                refine lv_aload_n hx hb dX2_look_156 rfl (lv_at hl 0 rfl) ?_
                refine rgetf C hd (by decide) cC25 rfl tgX2 2 (by decide) uw158 rfl dX2_look_157 ?_
                refine lv_iconst (v := 2) hx hb dX2_look_160 (by decide) ?_
                refine lv_icmp_ne (tgt := 168) hx hb dX2_look_161 (by decide) (fun hc32 => ?_) (fun hc32 => ?_)
                · replace he := i_f hc32 he
                  exact retVe (cf := (cC G)) C hr hlk hd he dX2_look_168
                · replace he := i_t hc32 he
                  refine lv_aload_n hx hb dX2_look_164 rfl (lv_at hl 0 rfl) ?_
                  replace he := b_some he
                  obtain ⟨V33, h33, he⟩ := he
                  refine kVV C hd hl.1 kw_X2_131 (by decide) cC25 rfl (c_X2_weigh l G ks hJ h33) ⟨Nat.le_of_ble_eq_true rfl, Nat.le_of_ble_eq_true rfl⟩ rfl (rest := []) rfl (Nat.le_of_ble_eq_true rfl) dX2_look_165 (fun H locs hd => ?_)
                  exact retVe (cf := (cC G)) C hr hlk hd he dX2_look_168
              · replace he := i_t hc31 he
                exact L113 200  _ _ _ _ (lv_sub hl [0] rfl) hd he
          · replace he := i_f hc25 he
            refine lv_aload_n hx hb dX2_look_57 rfl (lv_at hl 0 rfl) ?_
            refine lv_iconst (v := 0) hx hb dX2_look_58 (by decide) ?_
            replace he := bv_ex he
            obtain ⟨V34, e34, he⟩ := he
            refine rputf (cell' := (cC G) V34) C hd (by decide) cC25 rfl tgX2 tyX2 tyX2_ok nmX2 2 (by decide) uw158 rfl (tyX2_ok 2 (by decide)) rfl rfl (Nat.le_of_ble_eq_true rfl) (cC25_w (by decide) e34) (cC_ne e34) dX2_look_59 (fun H locs hd => ?_)
            refine lv_aload_n hx hb dX2_look_62 rfl (lv_at hl 0 rfl) ?_
            refine lv_aload_n hx hb dX2_look_63 rfl (lv_at hl 0 rfl) ?_
            refine rgetf C hd (by decide) cC25 rfl tgX2 3 (by decide) uw159 rfl dX2_look_64 ?_
            replace he := bv_ex he
            obtain ⟨V35, e35, he⟩ := he
            refine rputf (cell' := (cC G) V35) C hd (by decide) cC25 rfl tgX2 tyX2 tyX2_ok nmX2 4 (by decide) uw160 rfl (tyX2_ok 4 (by decide)) rfl rfl (Nat.le_of_ble_eq_true rfl) (cC25_w (by decide) e35) (cC_ne e35) dX2_look_67 (fun H locs hd => ?_)
            exact retVe (cf := (cC G)) C hr hlk hd he dX2_look_70
        · replace he := i_t hc24 he
          refine lv_aload_n hx hb dX2_look_33 rfl (lv_at hl 0 rfl) ?_
          refine lv_dup hx hb dX2_look_34 rfl ?_
          refine rgetf C hd (by decide) cC25 rfl tgX2 3 (by decide) uw159 rfl dX2_look_35 ?_
          refine lv_iconst (v := 1) hx hb dX2_look_38 (by decide) ?_
          refine lv_iadd hx hb dX2_look_39 ?_
          replace he := bv_ex he
          obtain ⟨V36, e36, he⟩ := he
          refine rputf (cell' := (cC G) V36) C hd (by decide) cC25 rfl tgX2 tyX2 tyX2_ok nmX2 3 (by decide) uw159 rfl (tyX2_ok 3 (by decide)) rfl rfl (Nat.le_of_ble_eq_true rfl) (cC25_w (by decide) e36) (cC_ne e36) dX2_look_40 (fun H locs hd => ?_)
          refine lv_goto (tgt := 8) hx hb dX2_look_43 (by decide) ?_
          exact ih8  _ _ _ _ (lv_sub hl [0] rfl) hd he
  unfold f_X2_look at he
  refine lv_aload_n hx hb dX2_look_0 rfl (lv_at hl 0 rfl) ?_
  refine lv_aload_n hx hb dX2_look_1 rfl (lv_at hl 0 rfl) ?_
  refine rgetf C hd (by decide) cC25 rfl tgX2 4 (by decide) uw160 rfl dX2_look_2 ?_
  replace he := bv_ex he
  obtain ⟨V1, e1, he⟩ := he
  refine rputf (cell' := (cC G) V1) C hd (by decide) cC25 rfl tgX2 tyX2 tyX2_ok nmX2 3 (by decide) uw159 rfl (tyX2_ok 3 (by decide)) rfl rfl (Nat.le_of_ble_eq_true rfl) (cC25_w (by decide) e1) (cC_ne e1) dX2_look_5 (fun H locs hd => ?_)
  exact L8 200  _ _ _ _ (lv_sub hl [0] rfl) hd he
set_option maxRecDepth 100000 in
set_option maxHeartbeats 4000000 in
theorem c_X2_nameOf (l : Launch) (G : Gd) (ks : Ks) (hJ : Inj 37 G.2.2) {a1 : Int32} {V V' : VV} {r : Int32} (he : f_X2_nameOf a1 V = some (r, V')) : MN l G ks yX2_nameOf cX2_nameOf 1 0 0 [.int a1] (cC G V) (cC G V') r := by
  refine walk_of (own := RX2) (by decide) rfl hJ (xs_C G ks) (Nat.le_of_ble_eq_true rfl) ?_
  intro p e s m below meth c C hr hlk ls hl hd
  have hl : lv_has ls 1 [(0, .int a1)] := hl
  obtain ⟨⟨hx, hb, hml, hown, hts⟩, -⟩ := id C
  unfold f_X2_nameOf at he
  refine lv_iload_n hx hb dX2_nameOf_0 rfl (lv_at hl 0 rfl) ?_
  replace he := ite_cases he
  rcases he with ⟨hc1, he⟩ | ⟨hc1, he⟩
  · refine rtabIn (k := 0) (off := 35) (tgt := 36) hx hb dX2_nameOf_1 hc1 (by decide) (by decide) rfl (by decide) ?_
    refine va_ldcS hx hb hown (C.2.2.2.2.2.2.2.1 0 (by decide)) dX2_nameOf_36 ?_
    exact retSe (k := 0) C hr hlk hd (v := 0) rfl (by decide) he dX2_nameOf_38
  · replace he := ite_cases he
    rcases he with ⟨hc2, he⟩ | ⟨hc2, he⟩
    · refine rtabIn (k := 1) (off := 38) (tgt := 39) hx hb dX2_nameOf_1 hc2 (by decide) (by decide) rfl (by decide) ?_
      refine va_ldcS hx hb hown (C.2.2.2.2.2.2.2.1 1 (by decide)) dX2_nameOf_39 ?_
      exact retSe (k := 1) C hr hlk hd (v := 1) rfl (by decide) he dX2_nameOf_41
    · replace he := ite_cases he
      rcases he with ⟨hc3, he⟩ | ⟨hc3, he⟩
      · refine rtabIn (k := 2) (off := 41) (tgt := 42) hx hb dX2_nameOf_1 hc3 (by decide) (by decide) rfl (by decide) ?_
        refine va_ldcS hx hb hown (C.2.2.2.2.2.2.2.1 2 (by decide)) dX2_nameOf_42 ?_
        exact retSe (k := 2) C hr hlk hd (v := 2) rfl (by decide) he dX2_nameOf_44
      · replace he := ite_cases he
        rcases he with ⟨hc4, he⟩ | ⟨hc4, he⟩
        · refine rtabIn (k := 3) (off := 44) (tgt := 45) hx hb dX2_nameOf_1 hc4 (by decide) (by decide) rfl (by decide) ?_
          refine va_ldcS hx hb hown (C.2.2.2.2.2.2.2.1 3 (by decide)) dX2_nameOf_45 ?_
          exact retSe (k := 3) C hr hlk hd (v := 3) rfl (by decide) he dX2_nameOf_47
        · replace he := ite_cases he
          rcases he with ⟨hc5, he⟩ | ⟨hc5, he⟩
          · refine rtabIn (k := 4) (off := 47) (tgt := 48) hx hb dX2_nameOf_1 hc5 (by decide) (by decide) rfl (by decide) ?_
            refine va_ldcS hx hb hown (C.2.2.2.2.2.2.2.1 4 (by decide)) dX2_nameOf_48 ?_
            exact retSe (k := 4) C hr hlk hd (v := 4) rfl (by decide) he dX2_nameOf_50
          · refine lv_tableOut (tgt := 51) hx hb dX2_nameOf_1 (tbl_out (fun k k1 k2 => by rcases (show k = 0 ∨ k = 1 ∨ k = 2 ∨ k = 3 ∨ k = 4 by omega) with rfl | rfl | rfl | rfl | rfl <;> first | exact hc1 | exact hc2 | exact hc3 | exact hc4 | exact hc5)) (by decide) ?_
            refine va_ldcS hx hb hown (C.2.2.2.2.2.2.2.1 5 (by decide)) dX2_nameOf_51 ?_
            exact retSe (k := 5) C hr hlk hd (v := 5) rfl (by decide) he dX2_nameOf_53
set_option maxRecDepth 100000 in
set_option maxHeartbeats 4000000 in
theorem c_X2_isWord (l : Launch) (G : Gd) (ks : Ks) (hJ : Inj 37 G.2.2) {sx : Nat} (hsx : sx < 13) {V V' : VV} {r : Int32} (he : f_X2_isWord sx V = some (r, V')) : MZ l 37 G (XC G ks) yX2_isWord cX2_isWord 3 4 85 [.ref (G.2.2 25), .ref (ks.1 sx)] (cC G V) (cC G V') r := by
  refine walk_of (own := RX2) (by decide) rfl hJ (xs_C G ks) (Nat.le_of_ble_eq_true rfl) ?_
  intro p e s m below meth c C hr hlk ls hl hd
  have hl : lv_has ls 3 [(0, .ref (G.2.2 25)), (1, .ref (ks.1 sx))] := hl
  obtain ⟨⟨hx, hb, hml, hown, hts⟩, -⟩ := id C
  have L28 : ∀ (fuel : Nat), ∀ (x2 : Int32) (V : VV) (H : Heap) (locs : List Loc) (ls : Array Slot), lv_has ls 3 [(0, .ref (G.2.2 25)), (1, .ref (ks.1 sx)), (2, .int x2)] → Dy 37 G (cC G V) s H locs → f_X2_isWord_L28 sx fuel x2 V = some (r, V') → W p l e (rmF 4 85) s m ([.ref (G.2.2 25), .ref (ks.1 sx)] : List Value).toArray below meth c H locs 0 0 (MQ below (QI 37 G (cC G V') (fun r' => r' = r ∧ narrow .boolean (.int r) = .int r)) ([.ref (G.2.2 25), .ref (ks.1 sx)] : List Value).toArray s 0 0 (inA 37 G.2.2)) (F0 m 28 ls []) := by
    intro fuel
    induction fuel with
    | zero => intro x2 V H locs ls hl hd he; simp [f_X2_isWord_L28] at he
    | succ n ih28 =>
      intro x2 V H locs ls hl hd he
      rw [f_X2_isWord_L28] at he
      refine lv_iload_n hx hb dX2_isWord_28 rfl (lv_at hl 2 rfl) ?_
      refine lv_aload_n hx hb dX2_isWord_29 rfl (lv_at hl 1 rfl) ?_
      refine kVS C hd hl.1 jk_length rfl hsx (j_length l G ks hJ hsx) ⟨Nat.le_of_ble_eq_true rfl, Nat.le_of_ble_eq_true rfl⟩ rfl (rest := [.int _]) rfl (Nat.le_of_ble_eq_true rfl) dX2_isWord_30 (fun H locs hd => ?_)
      refine lv_icmp_ge (tgt := 63) hx hb dX2_isWord_33 (by decide) (fun hc3 => ?_) (fun hc3 => ?_)
      · replace he := i_t hc3 he
        refine lv_iconst (v := 1) hx hb dX2_isWord_63 (by decide) ?_
        exact retZe (cf := (cC G)) C hr hlk hd rfl he dX2_isWord_64
      · replace he := i_f hc3 he
        refine lv_aload_n hx hb dX2_isWord_36 rfl (lv_at hl 0 rfl) ?_
        refine rgetf C hd (by decide) cC25 rfl tgX2 1 (by decide) uw157 rfl dX2_isWord_37 ?_
        refine lv_aload_n hx hb dX2_isWord_40 rfl (lv_at hl 0 rfl) ?_
        refine rgetf C hd (by decide) cC25 rfl tgX2 3 (by decide) uw159 rfl dX2_isWord_41 ?_
        refine lv_iload_n hx hb dX2_isWord_44 rfl (lv_at hl 2 rfl) ?_
        refine lv_iadd hx hb dX2_isWord_45 ?_
        replace he := g_some he
        obtain ⟨hi4, he⟩ := he
        refine riald C hd (by decide) cC26 hi4 dX2_isWord_46 ?_
        refine lv_aload_n hx hb dX2_isWord_47 rfl (lv_at hl 1 rfl) ?_
        refine lv_iload_n hx hb dX2_isWord_48 rfl (lv_at hl 2 rfl) ?_
        replace he := g_some he
        obtain ⟨hi5, he⟩ := he
        refine kVS C hd hl.1 jk_charAt rfl hsx (j_charAt l G ks hJ hsx hi5) ⟨Nat.le_of_ble_eq_true rfl, Nat.le_of_ble_eq_true rfl⟩ rfl (rest := [.int _]) rfl (Nat.le_of_ble_eq_true rfl) dX2_isWord_49 (fun H locs hd => ?_)
        refine lv_icmp_eq (tgt := 57) hx hb dX2_isWord_52 (by decide) (fun hc6 => ?_) (fun hc6 => ?_)
        · replace he := i_t hc6 he
          refine lv_iinc (v := _ + 1) (lv' := [(2, .int _), (0, .ref _), (1, .ref _)]) hx hb dX2_isWord_57 hl (k := 2) rfl rfl (by decide) rfl (fun ls hl => ?_)
          refine lv_goto (tgt := 28) hx hb dX2_isWord_60 (by decide) ?_
          exact ih28 _ _ _ _ _ (lv_sub hl [1, 2, 0] rfl) hd he
        · replace he := i_f hc6 he
          refine lv_iconst (v := 0) hx hb dX2_isWord_55 (by decide) ?_
          exact retZe (cf := (cC G)) C hr hlk hd rfl he dX2_isWord_56
  unfold f_X2_isWord at he
  refine lv_aload_n hx hb dX2_isWord_0 rfl (lv_at hl 0 rfl) ?_
  refine rgetf C hd (by decide) cC25 rfl tgX2 2 (by decide) uw158 rfl dX2_isWord_1 ?_
  refine lv_iconst (v := 1) hx hb dX2_isWord_4 (by decide) ?_
  refine lv_icmp_ne (tgt := 24) hx hb dX2_isWord_5 (by decide) (fun hc1 => ?_) (fun hc1 => ?_)
  · replace he := i_f hc1 he
    refine lv_iconst (v := 0) hx hb dX2_isWord_24 (by decide) ?_
    exact retZe (cf := (cC G)) C hr hlk hd rfl he dX2_isWord_25
  · replace he := i_t hc1 he
    refine lv_aload_n hx hb dX2_isWord_8 rfl (lv_at hl 0 rfl) ?_
    refine rgetf C hd (by decide) cC25 rfl tgX2 4 (by decide) uw160 rfl dX2_isWord_9 ?_
    refine lv_aload_n hx hb dX2_isWord_12 rfl (lv_at hl 0 rfl) ?_
    refine rgetf C hd (by decide) cC25 rfl tgX2 3 (by decide) uw159 rfl dX2_isWord_13 ?_
    refine lv_isub hx hb dX2_isWord_16 ?_
    refine lv_aload_n hx hb dX2_isWord_17 rfl (lv_at hl 1 rfl) ?_
    refine kVS C hd hl.1 jk_length rfl hsx (j_length l G ks hJ hsx) ⟨Nat.le_of_ble_eq_true rfl, Nat.le_of_ble_eq_true rfl⟩ rfl (rest := [.int _]) rfl (Nat.le_of_ble_eq_true rfl) dX2_isWord_18 (fun H locs hd => ?_)
    refine lv_icmp_eq (tgt := 26) hx hb dX2_isWord_21 (by decide) (fun hc2 => ?_) (fun hc2 => ?_)
    · replace he := i_t hc2 he
      refine lv_iconst (v := 0) hx hb dX2_isWord_26 (by decide) ?_
      refine lv_istore_n (lv' := [(2, .int _), (0, .ref _), (1, .ref _)]) hx hb dX2_isWord_27 rfl hl (by decide) rfl (fun ls hl => ?_)
      exact L28 200 _ _ _ _ _ (lv_sub hl [1, 2, 0] rfl) hd he
    · replace he := i_f hc2 he
      refine lv_iconst (v := 0) hx hb dX2_isWord_24 (by decide) ?_
      exact retZe (cf := (cC G)) C hr hlk hd rfl he dX2_isWord_25
set_option maxRecDepth 100000 in
set_option maxHeartbeats 4000000 in
theorem c_X2_kindNamed (l : Launch) (G : Gd) (ks : Ks) (hJ : Inj 37 G.2.2) {V V' : VV} {r : Int32} (he : f_X2_kindNamed V = some (r, V')) : MI l 37 G (XC G ks) yX2_kindNamed cX2_kindNamed 2 5 107 [.ref (G.2.2 25)] (cC G V) (cC G V') r := by
  refine walk_of (own := RX2) (by decide) rfl hJ (xs_C G ks) (Nat.le_of_ble_eq_true rfl) ?_
  intro p e s m below meth c C hr hlk ls hl hd
  have hl : lv_has ls 2 [(0, .ref (G.2.2 25))] := hl
  obtain ⟨⟨hx, hb, hml, hown, hts⟩, -⟩ := id C
  have L2 : ∀ (fuel : Nat), ∀ (x1 : Int32) (V : VV) (H : Heap) (locs : List Loc) (ls : Array Slot), lv_has ls 2 [(0, .ref (G.2.2 25)), (1, .int x1)] → Dy 37 G (cC G V) s H locs → f_X2_kindNamed_L2 fuel x1 V = some (r, V') → W p l e (rmF 5 107) s m ([.ref (G.2.2 25)] : List Value).toArray below meth c H locs 0 0 (MQ below (QI 37 G (cC G V') (fun r' => r' = r)) ([.ref (G.2.2 25)] : List Value).toArray s 0 0 (inA 37 G.2.2)) (F0 m 2 ls []) := by
    intro fuel
    induction fuel with
    | zero => intro x1 V H locs ls hl hd he; simp [f_X2_kindNamed_L2] at he
    | succ n ih2 =>
      intro x1 V H locs ls hl hd he
      rw [f_X2_kindNamed_L2] at he
      refine lv_iload_n hx hb dX2_kindNamed_2 rfl (lv_at hl 1 rfl) ?_
      refine lv_bipush (v := 6) hx hb dX2_kindNamed_3 (by decide) ?_
      refine lv_icmp_ge (tgt := 27) hx hb dX2_kindNamed_5 (by decide) (fun hc1 => ?_) (fun hc1 => ?_)
      · replace he := i_t hc1 he
        refine lv_iconst (v := (-1)) hx hb dX2_kindNamed_27 (by decide) ?_
        exact retIe (cf := (cC G)) C hr hlk hd he dX2_kindNamed_28
      · replace he := i_f hc1 he
        refine lv_aload_n hx hb dX2_kindNamed_8 rfl (lv_at hl 0 rfl) ?_
        refine lv_iload_n hx hb dX2_kindNamed_9 rfl (lv_at hl 1 rfl) ?_
        replace he := b_some he
        obtain ⟨⟨r2, V2⟩, h2, he⟩ := he
        refine kSR C hd hl.1 kw_X2_103 (c_X2_nameOf l G ks hJ h2) ⟨Nat.le_of_ble_eq_true rfl, Nat.le_of_ble_eq_true rfl⟩ rfl (rest := [.ref _]) rfl (Nat.le_of_ble_eq_true rfl) dX2_kindNamed_10 (fun H locs hk2 hd => ?_)
        replace he := b_some he
        obtain ⟨⟨r3, V3⟩, h3, he⟩ := he
        refine kVZ C hd hl.1 kw_X2_100 (by decide) cC25 rfl (c_X2_isWord l G ks hJ hk2 h3) ⟨Nat.le_of_ble_eq_true rfl, Nat.le_of_ble_eq_true rfl⟩ rfl (rest := []) rfl (Nat.le_of_ble_eq_true rfl) dX2_kindNamed_13 (fun H locs hz3 hd => ?_)
        refine lv_if_eq (tgt := 21) hx hb dX2_kindNamed_16 (by decide) (fun hc4 => ?_) (fun hc4 => ?_)
        · replace he := i_t hc4 he
          refine lv_iinc (v := _ + 1) (lv' := [(1, .int _), (0, .ref _)]) hx hb dX2_kindNamed_21 hl (k := 1) rfl rfl (by decide) rfl (fun ls hl => ?_)
          refine lv_goto (tgt := 2) hx hb dX2_kindNamed_24 (by decide) ?_
          exact ih2 _ _ _ _ _ (lv_sub hl [1, 0] rfl) hd he
        · replace he := i_f hc4 he
          refine lv_iload_n hx hb dX2_kindNamed_19 rfl (lv_at hl 1 rfl) ?_
          exact retIe (cf := (cC G)) C hr hlk hd he dX2_kindNamed_20
  unfold f_X2_kindNamed at he
  refine lv_iconst (v := 0) hx hb dX2_kindNamed_0 (by decide) ?_
  refine lv_istore_n (lv' := [(1, .int _), (0, .ref _)]) hx hb dX2_kindNamed_1 rfl hl (by decide) rfl (fun ls hl => ?_)
  exact L2 200 _ _ _ _ _ (lv_sub hl [1, 0] rfl) hd he
set_option maxRecDepth 100000 in
set_option maxHeartbeats 4000000 in
theorem c_X2_takeWord (l : Launch) (G : Gd) (ks : Ks) (hJ : Inj 37 G.2.2) {sx : Nat} (hsx : sx < 13) {V V' : VV} {r : Int32} (he : f_X2_takeWord sx V = some (r, V')) : MZ l 37 G (XC G ks) yX2_takeWord cX2_takeWord 2 5 107 [.ref (G.2.2 25), .ref (ks.1 sx)] (cC G V) (cC G V') r := by
  refine walk_of (own := RX2) (by decide) rfl hJ (xs_C G ks) (Nat.le_of_ble_eq_true rfl) ?_
  intro p e s m below meth c C hr hlk ls hl hd
  have hl : lv_has ls 2 [(0, .ref (G.2.2 25)), (1, .ref (ks.1 sx))] := hl
  obtain ⟨⟨hx, hb, hml, hown, hts⟩, -⟩ := id C
  unfold f_X2_takeWord at he
  refine lv_aload_n hx hb dX2_takeWord_0 rfl (lv_at hl 0 rfl) ?_
  refine lv_aload_n hx hb dX2_takeWord_1 rfl (lv_at hl 1 rfl) ?_
  replace he := b_some he
  obtain ⟨⟨r1, V1⟩, h1, he⟩ := he
  refine kVZ C hd hl.1 kw_X2_100 (by decide) cC25 rfl (c_X2_isWord l G ks hJ hsx h1) ⟨Nat.le_of_ble_eq_true rfl, Nat.le_of_ble_eq_true rfl⟩ rfl (rest := []) rfl (Nat.le_of_ble_eq_true rfl) dX2_takeWord_2 (fun H locs hz1 hd => ?_)
  refine lv_if_ne (tgt := 10) hx hb dX2_takeWord_5 (by decide) (fun hc2 => ?_) (fun hc2 => ?_)
  · replace he := i_f hc2 he
    refine lv_aload_n hx hb dX2_takeWord_10 rfl (lv_at hl 0 rfl) ?_
    replace he := b_some he
    obtain ⟨V3, h3, he⟩ := he
    refine kVV C hd hl.1 kw_X2_34 (by decide) cC25 rfl (c_X2_look l G ks hJ h3) ⟨Nat.le_of_ble_eq_true rfl, Nat.le_of_ble_eq_true rfl⟩ rfl (rest := []) rfl (Nat.le_of_ble_eq_true rfl) dX2_takeWord_11 (fun H locs hd => ?_)
    refine lv_iconst (v := 1) hx hb dX2_takeWord_14 (by decide) ?_
    exact retZe (cf := (cC G)) C hr hlk hd rfl he dX2_takeWord_15
  · replace he := i_t hc2 he
    refine lv_iconst (v := 0) hx hb dX2_takeWord_8 (by decide) ?_
    exact retZe (cf := (cC G)) C hr hlk hd rfl he dX2_takeWord_9
set_option maxRecDepth 100000 in
set_option maxHeartbeats 4000000 in
theorem c_X2_takeNumber (l : Launch) (G : Gd) (ks : Ks) (hJ : Inj 37 G.2.2) {a1 : Int32} {a2 : Int32} {V V' : VV} {r : Int32} (he : f_X2_takeNumber a1 a2 V = some (r, V')) : MZ l 37 G (XC G ks) yX2_takeNumber cX2_takeNumber 3 3 71 [.ref (G.2.2 25), .int a1, .int a2] (cC G V) (cC G V') r := by
  refine walk_of (own := RX2) (by decide) rfl hJ (xs_C G ks) (Nat.le_of_ble_eq_true rfl) ?_
  intro p e s m below meth c C hr hlk ls hl hd
  have hl : lv_has ls 3 [(0, .ref (G.2.2 25)), (1, .int a1), (2, .int a2)] := hl
  obtain ⟨⟨hx, hb, hml, hown, hts⟩, -⟩ := id C
  unfold f_X2_takeNumber at he
  refine lv_aload_n hx hb dX2_takeNumber_0 rfl (lv_at hl 0 rfl) ?_
  refine rgetf C hd (by decide) cC25 rfl tgX2 2 (by decide) uw158 rfl dX2_takeNumber_1 ?_
  refine lv_iconst (v := 2) hx hb dX2_takeNumber_4 (by decide) ?_
  refine lv_icmp_ne (tgt := 24) hx hb dX2_takeNumber_5 (by decide) (fun hc1 => ?_) (fun hc1 => ?_)
  · replace he := i_f hc1 he
    refine lv_iconst (v := 0) hx hb dX2_takeNumber_24 (by decide) ?_
    exact retZe (cf := (cC G)) C hr hlk hd rfl he dX2_takeNumber_25
  · replace he := i_t hc1 he
    refine lv_aload_n hx hb dX2_takeNumber_8 rfl (lv_at hl 0 rfl) ?_
    refine rgetf C hd (by decide) cC25 rfl tgX2 5 (by decide) uw161 rfl dX2_takeNumber_9 ?_
    refine lv_iload_n hx hb dX2_takeNumber_12 rfl (lv_at hl 1 rfl) ?_
    refine lv_icmp_lt (tgt := 24) hx hb dX2_takeNumber_13 (by decide) (fun hc2 => ?_) (fun hc2 => ?_)
    · replace he := i_t hc2 he
      refine lv_iconst (v := 0) hx hb dX2_takeNumber_24 (by decide) ?_
      exact retZe (cf := (cC G)) C hr hlk hd rfl he dX2_takeNumber_25
    · replace he := i_f hc2 he
      refine lv_aload_n hx hb dX2_takeNumber_16 rfl (lv_at hl 0 rfl) ?_
      refine rgetf C hd (by decide) cC25 rfl tgX2 5 (by decide) uw161 rfl dX2_takeNumber_17 ?_
      refine lv_iload_n hx hb dX2_takeNumber_20 rfl (lv_at hl 2 rfl) ?_
      refine lv_icmp_le (tgt := 26) hx hb dX2_takeNumber_21 (by decide) (fun hc3 => ?_) (fun hc3 => ?_)
      · replace he := i_t hc3 he
        refine lv_aload_n hx hb dX2_takeNumber_26 rfl (lv_at hl 0 rfl) ?_
        refine lv_aload_n hx hb dX2_takeNumber_27 rfl (lv_at hl 0 rfl) ?_
        refine rgetf C hd (by decide) cC25 rfl tgX2 5 (by decide) uw161 rfl dX2_takeNumber_28 ?_
        replace he := bv_ex he
        obtain ⟨V4, e4, he⟩ := he
        refine rputf (cell' := (cC G) V4) C hd (by decide) cC25 rfl tgX2 tyX2 tyX2_ok nmX2 6 (by decide) uw162 rfl (tyX2_ok 6 (by decide)) rfl rfl (Nat.le_of_ble_eq_true rfl) (cC25_w (by decide) e4) (cC_ne e4) dX2_takeNumber_31 (fun H locs hd => ?_)
        refine lv_aload_n hx hb dX2_takeNumber_34 rfl (lv_at hl 0 rfl) ?_
        replace he := b_some he
        obtain ⟨V5, h5, he⟩ := he
        refine kVV C hd hl.1 kw_X2_34 (by decide) cC25 rfl (c_X2_look l G ks hJ h5) ⟨Nat.le_of_ble_eq_true rfl, Nat.le_of_ble_eq_true rfl⟩ rfl (rest := []) rfl (Nat.le_of_ble_eq_true rfl) dX2_takeNumber_35 (fun H locs hd => ?_)
        refine lv_iconst (v := 1) hx hb dX2_takeNumber_38 (by decide) ?_
        exact retZe (cf := (cC G)) C hr hlk hd rfl he dX2_takeNumber_39
      · replace he := i_f hc3 he
        refine lv_iconst (v := 0) hx hb dX2_takeNumber_24 (by decide) ?_
        exact retZe (cf := (cC G)) C hr hlk hd rfl he dX2_takeNumber_25
