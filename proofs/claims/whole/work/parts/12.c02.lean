set_option maxRecDepth 100000 in
set_option maxHeartbeats 4000000 in
theorem c_X4_isSo (l : Launch) (G : Gd) (hJ : Inj 11 G.2.2) {a1 : Int32} {a2 : Int32} {a3 : Int32} {V V' : VV} {r : Int32} (he : f_X4_isSo a1 a2 a3 V = some (r, V')) : MZ l 11 G XM yX4_isSo cX4_isSo 4 4 85 [.ref (G.2.2 0), .int a1, .int a2, .int a3] (cM G V) (cM G V') r := by
  refine walk_of (own := RX4) (by decide) rfl hJ (xs_M G) (Nat.le_of_ble_eq_true rfl) ?_
  intro p e s m below meth c C hr hlk ls hl hd
  have hl : lv_has ls 4 [(0, .ref (G.2.2 0)), (1, .int a1), (2, .int a2), (3, .int a3)] := hl
  obtain ⟨⟨hx, hb, hml, hown, hts⟩, -⟩ := id C
  unfold f_X4_isSo at he
  refine lv_iload_n hx hb dX4_isSo_0 rfl (lv_at hl 1 rfl) ?_
  refine lv_if_ne (tgt := 22) hx hb dX4_isSo_1 (by decide) (fun hc1 => ?_) (fun hc1 => ?_)
  · replace he := i_f hc1 he
    refine lv_iload_n hx hb dX4_isSo_22 rfl (lv_at hl 1 rfl) ?_
    refine lv_iconst (v := 1) hx hb dX4_isSo_23 (by decide) ?_
    refine lv_icmp_ne (tgt := 43) hx hb dX4_isSo_24 (by decide) (fun hc2 => ?_) (fun hc2 => ?_)
    · replace he := i_f hc2 he
      refine lv_iload_n hx hb dX4_isSo_43 rfl (lv_at hl 1 rfl) ?_
      refine lv_iconst (v := 2) hx hb dX4_isSo_44 (by decide) ?_
      refine lv_icmp_ne (tgt := 56) hx hb dX4_isSo_45 (by decide) (fun hc3 => ?_) (fun hc3 => ?_)
      · replace he := i_f hc3 he
        refine lv_aload_n hx hb dX4_isSo_56 rfl (lv_at hl 0 rfl) ?_
        refine lv_iload_n hx hb dX4_isSo_57 rfl (lv_at hl 2 rfl) ?_
        replace he := b_some he
        obtain ⟨⟨r4, V4⟩, h4, he⟩ := he
        refine kVZ C hd hl.1 kw_X4_156 (by decide) cM0 rfl (c_X4_isGlad l G hJ h4) ⟨Nat.le_of_ble_eq_true rfl, Nat.le_of_ble_eq_true rfl⟩ rfl (rest := []) rfl (Nat.le_of_ble_eq_true rfl) dX4_isSo_58 (fun H locs hz4 hd => ?_)
        exact retZe (cf := (cM G)) C hr hlk hd hz4 he dX4_isSo_61
      · replace he := i_t hc3 he
        refine lv_aload_n hx hb dX4_isSo_48 rfl (lv_at hl 0 rfl) ?_
        refine lv_iload_n hx hb dX4_isSo_49 rfl (lv_at hl 2 rfl) ?_
        replace he := b_some he
        obtain ⟨⟨r5, V5⟩, h5, he⟩ := he
        refine kVZ C hd hl.1 kw_X4_95 (by decide) cM0 rfl (c_X4_isFree l G hJ h5) ⟨Nat.le_of_ble_eq_true rfl, Nat.le_of_ble_eq_true rfl⟩ rfl (rest := []) rfl (Nat.le_of_ble_eq_true rfl) dX4_isSo_50 (fun H locs hz5 hd => ?_)
        refine lv_goto (tgt := 61) hx hb dX4_isSo_53 (by decide) ?_
        exact retZe (cf := (cM G)) C hr hlk hd hz5 he dX4_isSo_61
    · replace he := i_t hc2 he
      refine lv_aload_n hx hb dX4_isSo_27 rfl (lv_at hl 0 rfl) ?_
      refine lv_iload_n hx hb dX4_isSo_28 rfl (lv_at hl 2 rfl) ?_
      replace he := b_some he
      obtain ⟨⟨r6, V6⟩, h6, he⟩ := he
      refine kVZ C hd hl.1 kw_X4_95 (by decide) cM0 rfl (c_X4_isFree l G hJ h6) ⟨Nat.le_of_ble_eq_true rfl, Nat.le_of_ble_eq_true rfl⟩ rfl (rest := []) rfl (Nat.le_of_ble_eq_true rfl) dX4_isSo_29 (fun H locs hz6 hd => ?_)
      refine lv_if_ne (tgt := 39) hx hb dX4_isSo_32 (by decide) (fun hc7 => ?_) (fun hc7 => ?_)
      · replace he := i_f hc7 he
        refine lv_iconst (v := 0) hx hb dX4_isSo_39 (by decide) ?_
        refine lv_goto (tgt := 61) hx hb dX4_isSo_40 (by decide) ?_
        exact retZe (cf := (cM G)) C hr hlk hd rfl he dX4_isSo_61
      · replace he := i_t hc7 he
        refine lv_iconst (v := 1) hx hb dX4_isSo_35 (by decide) ?_
        refine lv_goto (tgt := 61) hx hb dX4_isSo_36 (by decide) ?_
        exact retZe (cf := (cM G)) C hr hlk hd rfl he dX4_isSo_61
  · replace he := i_t hc1 he
    refine lv_aload_n hx hb dX4_isSo_4 rfl (lv_at hl 0 rfl) ?_
    refine lv_iload_n hx hb dX4_isSo_5 rfl (lv_at hl 2 rfl) ?_
    refine lv_iconst (v := 5) hx hb dX4_isSo_6 (by decide) ?_
    replace he := b_some he
    obtain ⟨⟨r8, V8⟩, h8, he⟩ := he
    refine kVI C hd hl.1 kw_X4_58 (by decide) cM0 rfl (c_X4_its l G hJ h8) ⟨Nat.le_of_ble_eq_true rfl, Nat.le_of_ble_eq_true rfl⟩ rfl (rest := []) rfl (Nat.le_of_ble_eq_true rfl) dX4_isSo_7 (fun H locs hd => ?_)
    refine lv_iload_n hx hb dX4_isSo_10 rfl (lv_at hl 3 rfl) ?_
    refine lv_icmp_ne (tgt := 18) hx hb dX4_isSo_11 (by decide) (fun hc9 => ?_) (fun hc9 => ?_)
    · replace he := i_f hc9 he
      refine lv_iconst (v := 0) hx hb dX4_isSo_18 (by decide) ?_
      refine lv_goto (tgt := 61) hx hb dX4_isSo_19 (by decide) ?_
      exact retZe (cf := (cM G)) C hr hlk hd rfl he dX4_isSo_61
    · replace he := i_t hc9 he
      refine lv_iconst (v := 1) hx hb dX4_isSo_14 (by decide) ?_
      refine lv_goto (tgt := 61) hx hb dX4_isSo_15 (by decide) ?_
      exact retZe (cf := (cM G)) C hr hlk hd rfl he dX4_isSo_61
set_option maxRecDepth 100000 in
set_option maxHeartbeats 4000000 in
theorem c_X4_firstSo (l : Launch) (G : Gd) (hJ : Inj 11 G.2.2) {a1 : Int32} {a2 : Int32} {a3 : Int32} {a4 : Int32} {V V' : VV} {r : Int32} (he : f_X4_firstSo a1 a2 a3 a4 V = some (r, V')) : MI l 11 G XM yX4_firstSo cX4_firstSo 6 6 133 [.ref (G.2.2 0), .int a1, .int a2, .int a3, .int a4] (cM G V) (cM G V') r := by
  refine walk_of (own := RX4) (by decide) rfl hJ (xs_M G) (Nat.le_of_ble_eq_true rfl) ?_
  intro p e s m below meth c C hr hlk ls hl hd
  have hl : lv_has ls 6 [(0, .ref (G.2.2 0)), (1, .int a1), (2, .int a2), (3, .int a3), (4, .int a4)] := hl
  obtain ⟨⟨hx, hb, hml, hown, hts⟩, -⟩ := id C
  have L3 : ∀ (fuel : Nat) (x1 : Int32) (x2 : Int32) (x3 : Int32) (x4 : Int32) (x5 : Int32) (V : VV) (H : Heap) (locs : List Loc) (ls : Array Slot), lv_has ls 6 [(0, .ref (G.2.2 0)), (1, .int x1), (2, .int x2), (3, .int x3), (4, .int x4), (5, .int x5)] → Dy 11 G (cM G V) s H locs → f_X4_firstSo_L3 fuel x1 x2 x3 x4 x5 V = some (r, V') → W p l e (rmF 6 133) s m ([.ref (G.2.2 0), .int a1, .int a2, .int a3, .int a4] : List Value).toArray below meth c H locs 0 0 (MQ below (QI 11 G (cM G V') (fun r' => r' = r)) ([.ref (G.2.2 0), .int a1, .int a2, .int a3, .int a4] : List Value).toArray s 0 0 (inA 11 G.2.2)) (F0 m 3 ls []) := by
    intro fuel
    induction fuel with
    | zero => intro x1 x2 x3 x4 x5 V H locs ls hl hd he; simp [f_X4_firstSo_L3] at he
    | succ n ih3 =>
      intro x1 x2 x3 x4 x5 V H locs ls hl hd he
      rw [f_X4_firstSo_L3] at he
      refine lv_iload hx hb dX4_firstSo_3 (lv_at hl 5 rfl) ?_
      refine lv_iload hx hb dX4_firstSo_5 (lv_at hl 4 rfl) ?_
      refine lv_icmp_gt (tgt := 30) hx hb dX4_firstSo_7 (by decide) (fun hc1 => ?_) (fun hc1 => ?_)
      · replace he := i_t hc1 he
        refine lv_iload hx hb dX4_firstSo_30 (lv_at hl 5 rfl) ?_
        exact retIe (cf := (cM G)) C hr hlk hd he dX4_firstSo_32
      · replace he := i_f hc1 he
        refine lv_aload_n hx hb dX4_firstSo_10 rfl (lv_at hl 0 rfl) ?_
        refine lv_iload_n hx hb dX4_firstSo_11 rfl (lv_at hl 1 rfl) ?_
        refine lv_iload_n hx hb dX4_firstSo_12 rfl (lv_at hl 2 rfl) ?_
        refine lv_iload_n hx hb dX4_firstSo_13 rfl (lv_at hl 3 rfl) ?_
        replace he := b_some he
        obtain ⟨⟨r2, V2⟩, h2, he⟩ := he
        refine kVZ C hd hl.1 kw_X4_170 (by decide) cM0 rfl (c_X4_isSo l G hJ h2) ⟨Nat.le_of_ble_eq_true rfl, Nat.le_of_ble_eq_true rfl⟩ rfl (rest := []) rfl (Nat.le_of_ble_eq_true rfl) dX4_firstSo_14 (fun H locs hz2 hd => ?_)
        refine lv_if_ne (tgt := 30) hx hb dX4_firstSo_17 (by decide) (fun hc3 => ?_) (fun hc3 => ?_)
        · replace he := i_f hc3 he
          refine lv_iload hx hb dX4_firstSo_30 (lv_at hl 5 rfl) ?_
          exact retIe (cf := (cM G)) C hr hlk hd he dX4_firstSo_32
        · replace he := i_t hc3 he
          refine lv_aload_n hx hb dX4_firstSo_20 rfl (lv_at hl 0 rfl) ?_
          replace he := b_some he
          obtain ⟨V4, h4, he⟩ := he
          refine kVV C hd hl.1 kw_X4_147 (by decide) cM0 rfl (c_X4_goesHour l G hJ h4) ⟨Nat.le_of_ble_eq_true rfl, Nat.le_of_ble_eq_true rfl⟩ rfl (rest := []) rfl (Nat.le_of_ble_eq_true rfl) dX4_firstSo_21 (fun H locs hd => ?_)
          refine lv_iinc (v := _ + 1) (lv' := [(5, .int _), (0, .ref _), (1, .int _), (2, .int _), (3, .int _), (4, .int _)]) hx hb dX4_firstSo_24 hl (k := 5) rfl rfl (by decide) rfl (fun ls hl => ?_)
          refine lv_goto (tgt := 3) hx hb dX4_firstSo_27 (by decide) ?_
          exact ih3 _ _ _ _ _ _ _ _ _ (lv_sub hl [1, 2, 3, 4, 5, 0] rfl) hd he
  unfold f_X4_firstSo at he
  refine lv_iconst (v := 0) hx hb dX4_firstSo_0 (by decide) ?_
  refine lv_istore (lv' := [(5, .int _), (0, .ref _), (1, .int _), (2, .int _), (3, .int _), (4, .int _)]) hx hb dX4_firstSo_1 hl (by decide) rfl (fun ls hl => ?_)
  exact L3 200 _ _ _ _ _ _ _ _ _ (lv_sub hl [1, 2, 3, 4, 5, 0] rfl) hd he
set_option maxRecDepth 100000 in
set_option maxHeartbeats 4000000 in
theorem c_X4_foundSo (l : Launch) (G : Gd) (hJ : Inj 11 G.2.2) {a1 : Int32} {a2 : Int32} {a3 : Int32} {V V' : VV} {r : Int32} (he : f_X4_foundSo a1 a2 a3 V = some (r, V')) : MI l 11 G XM yX4_foundSo cX4_foundSo 5 7 158 [.ref (G.2.2 0), .int a1, .int a2, .int a3] (cM G V) (cM G V') r := by
  refine walk_of (own := RX4) (by decide) rfl hJ (xs_M G) (Nat.le_of_ble_eq_true rfl) ?_
  intro p e s m below meth c C hr hlk ls hl hd
  have hl : lv_has ls 5 [(0, .ref (G.2.2 0)), (1, .int a1), (2, .int a2), (3, .int a3)] := hl
  obtain ⟨⟨hx, hb, hml, hown, hts⟩, -⟩ := id C
  unfold f_X4_foundSo at he
  refine lv_aload_n hx hb dX4_foundSo_0 rfl (lv_at hl 0 rfl) ?_
  replace he := b_some he
  obtain ⟨V1, h1, he⟩ := he
  refine kVV C hd hl.1 kw_X4_164 (by decide) cM0 rfl (c_X4_laysAside l G hJ h1) ⟨Nat.le_of_ble_eq_true rfl, Nat.le_of_ble_eq_true rfl⟩ rfl (rest := []) rfl (Nat.le_of_ble_eq_true rfl) dX4_foundSo_1 (fun H locs hd => ?_)
  refine lv_aload_n hx hb dX4_foundSo_4 rfl (lv_at hl 0 rfl) ?_
  refine lv_aload_n hx hb dX4_foundSo_5 rfl (lv_at hl 0 rfl) ?_
  refine lv_iload_n hx hb dX4_foundSo_6 rfl (lv_at hl 1 rfl) ?_
  refine lv_iload_n hx hb dX4_foundSo_7 rfl (lv_at hl 2 rfl) ?_
  refine lv_iload_n hx hb dX4_foundSo_8 rfl (lv_at hl 3 rfl) ?_
  refine lv_bipush (v := 100) hx hb dX4_foundSo_9 (by decide) ?_
  replace he := b_some he
  obtain ⟨⟨r2, V2⟩, h2, he⟩ := he
  refine kVI C hd hl.1 kw_X4_174 (by decide) cM0 rfl (c_X4_firstSo l G hJ h2) ⟨Nat.le_of_ble_eq_true rfl, Nat.le_of_ble_eq_true rfl⟩ rfl (rest := [.ref _]) rfl (Nat.le_of_ble_eq_true rfl) dX4_foundSo_11 (fun H locs hd => ?_)
  replace he := b_some he
  obtain ⟨⟨r3, V3⟩, h3, he⟩ := he
  refine kVI C hd hl.1 kw_X4_167 (by decide) cM0 rfl (c_X4_takesBack l G hJ h3) ⟨Nat.le_of_ble_eq_true rfl, Nat.le_of_ble_eq_true rfl⟩ rfl (rest := []) rfl (Nat.le_of_ble_eq_true rfl) dX4_foundSo_14 (fun H locs hd => ?_)
  refine lv_istore (lv' := [(4, .int _), (0, .ref _), (1, .int _), (2, .int _), (3, .int _)]) hx hb dX4_foundSo_17 hl (by decide) rfl (fun ls hl => ?_)
  refine lv_iload hx hb dX4_foundSo_19 (lv_at hl 0 rfl) ?_
  refine lv_bipush (v := 100) hx hb dX4_foundSo_21 (by decide) ?_
  refine lv_icmp_le (tgt := 35) hx hb dX4_foundSo_23 (by decide) (fun hc4 => ?_) (fun hc4 => ?_)
  · replace he := i_t hc4 he
    refine lv_iload hx hb dX4_foundSo_35 (lv_at hl 0 rfl) ?_
    exact retIe (cf := (cM G)) C hr hlk hd he dX4_foundSo_37
  · replace he := i_f hc4 he
    refine lv_aload_n hx hb dX4_foundSo_26 rfl (lv_at hl 1 rfl) ?_
    refine lv_ldc hx hb hown (hts _ tw961) dX4_foundSo_27 ?_
    replace he := b_some he
    obtain ⟨⟨r5, V5⟩, h5, he⟩ := he
    refine kVI C hd hl.1 kw_X4_66 (by decide) cM0 rfl (c_X4_finds l G hJ h5) ⟨Nat.le_of_ble_eq_true rfl, Nat.le_of_ble_eq_true rfl⟩ rfl (rest := []) rfl (Nat.le_of_ble_eq_true rfl) dX4_foundSo_29 (fun H locs hd => ?_)
    refine lv_goto (tgt := 37) hx hb dX4_foundSo_32 (by decide) ?_
    exact retIe (cf := (cM G)) C hr hlk hd he dX4_foundSo_37
set_option maxRecDepth 100000 in
set_option maxHeartbeats 4000000 in
theorem c_X4_meet (l : Launch) (G : Gd) (hJ : Inj 11 G.2.2) {a1 : Int32} {a2 : Int32} {V V' : VV} {r : Int32} (he : f_X4_meet a1 a2 V = some (r, V')) : MI l 11 G XM yX4_meet cX4_meet 3 8 182 [.ref (G.2.2 0), .int a1, .int a2] (cM G V) (cM G V') r := by
  refine walk_of (own := RX4) (by decide) rfl hJ (xs_M G) (Nat.le_of_ble_eq_true rfl) ?_
  intro p e s m below meth c C hr hlk ls hl hd
  have hl : lv_has ls 3 [(0, .ref (G.2.2 0)), (1, .int a1), (2, .int a2)] := hl
  obtain ⟨⟨hx, hb, hml, hown, hts⟩, -⟩ := id C
  unfold f_X4_meet at he
  refine lv_aload_n hx hb dX4_meet_0 rfl (lv_at hl 0 rfl) ?_
  refine lv_iload_n hx hb dX4_meet_1 rfl (lv_at hl 1 rfl) ?_
  refine lv_iload_n hx hb dX4_meet_2 rfl (lv_at hl 2 rfl) ?_
  replace he := b_some he
  obtain ⟨⟨r1, V1⟩, h1, he⟩ := he
  refine kVZ C hd hl.1 kw_X4_118 (by decide) cM0 rfl (c_X4_areTwo l G hJ h1) ⟨Nat.le_of_ble_eq_true rfl, Nat.le_of_ble_eq_true rfl⟩ rfl (rest := []) rfl (Nat.le_of_ble_eq_true rfl) dX4_meet_3 (fun H locs hz1 hd => ?_)
  refine lv_if_eq (tgt := 19) hx hb dX4_meet_6 (by decide) (fun hc2 => ?_) (fun hc2 => ?_)
  · replace he := i_t hc2 he
    refine lv_aload_n hx hb dX4_meet_19 rfl (lv_at hl 0 rfl) ?_
    refine lv_ldc hx hb hown (hts _ tw768) dX4_meet_20 ?_
    replace he := b_some he
    obtain ⟨⟨r3, V3⟩, h3, he⟩ := he
    refine kVI C hd hl.1 kw_X4_66 (by decide) cM0 rfl (c_X4_finds l G hJ h3) ⟨Nat.le_of_ble_eq_true rfl, Nat.le_of_ble_eq_true rfl⟩ rfl (rest := []) rfl (Nat.le_of_ble_eq_true rfl) dX4_meet_22 (fun H locs hd => ?_)
    exact retIe (cf := (cM G)) C hr hlk hd he dX4_meet_25
  · replace he := i_f hc2 he
    refine lv_aload_n hx hb dX4_meet_9 rfl (lv_at hl 0 rfl) ?_
    refine lv_iconst (v := 0) hx hb dX4_meet_10 (by decide) ?_
    refine lv_iload_n hx hb dX4_meet_11 rfl (lv_at hl 1 rfl) ?_
    refine lv_iload_n hx hb dX4_meet_12 rfl (lv_at hl 2 rfl) ?_
    replace he := b_some he
    obtain ⟨⟨r4, V4⟩, h4, he⟩ := he
    refine kVI C hd hl.1 kw_X4_179 (by decide) cM0 rfl (c_X4_foundSo l G hJ h4) ⟨Nat.le_of_ble_eq_true rfl, Nat.le_of_ble_eq_true rfl⟩ rfl (rest := []) rfl (Nat.le_of_ble_eq_true rfl) dX4_meet_13 (fun H locs hd => ?_)
    refine lv_goto (tgt := 25) hx hb dX4_meet_16 (by decide) ?_
    exact retIe (cf := (cM G)) C hr hlk hd he dX4_meet_25
set_option maxRecDepth 100000 in
set_option maxHeartbeats 4000000 in
theorem c_X4_when (l : Launch) (G : Gd) (hJ : Inj 11 G.2.2) {a1 : Int32} {V V' : VV} {r : Int32} (he : f_X4_when a1 V = some (r, V')) : MI l 11 G XM yX4_when cX4_when 2 8 182 [.ref (G.2.2 0), .int a1] (cM G V) (cM G V') r := by
  refine walk_of (own := RX4) (by decide) rfl hJ (xs_M G) (Nat.le_of_ble_eq_true rfl) ?_
  intro p e s m below meth c C hr hlk ls hl hd
  have hl : lv_has ls 2 [(0, .ref (G.2.2 0)), (1, .int a1)] := hl
  obtain ⟨⟨hx, hb, hml, hown, hts⟩, -⟩ := id C
  unfold f_X4_when at he
  refine lv_aload_n hx hb dX4_when_0 rfl (lv_at hl 0 rfl) ?_
  refine lv_iload_n hx hb dX4_when_1 rfl (lv_at hl 1 rfl) ?_
  replace he := b_some he
  obtain ⟨⟨r1, V1⟩, h1, he⟩ := he
  refine kVZ C hd hl.1 kw_X4_48 (by decide) cM0 rfl (c_X4_isWalker l G hJ h1) ⟨Nat.le_of_ble_eq_true rfl, Nat.le_of_ble_eq_true rfl⟩ rfl (rest := []) rfl (Nat.le_of_ble_eq_true rfl) dX4_when_2 (fun H locs hz1 hd => ?_)
  refine lv_if_eq (tgt := 18) hx hb dX4_when_5 (by decide) (fun hc2 => ?_) (fun hc2 => ?_)
  · replace he := i_t hc2 he
    refine lv_aload_n hx hb dX4_when_18 rfl (lv_at hl 0 rfl) ?_
    refine lv_ldc hx hb hown (hts _ tw768) dX4_when_19 ?_
    replace he := b_some he
    obtain ⟨⟨r3, V3⟩, h3, he⟩ := he
    refine kVI C hd hl.1 kw_X4_66 (by decide) cM0 rfl (c_X4_finds l G hJ h3) ⟨Nat.le_of_ble_eq_true rfl, Nat.le_of_ble_eq_true rfl⟩ rfl (rest := []) rfl (Nat.le_of_ble_eq_true rfl) dX4_when_21 (fun H locs hd => ?_)
    exact retIe (cf := (cM G)) C hr hlk hd he dX4_when_24
  · replace he := i_f hc2 he
    refine lv_aload_n hx hb dX4_when_8 rfl (lv_at hl 0 rfl) ?_
    refine lv_iconst (v := 1) hx hb dX4_when_9 (by decide) ?_
    refine lv_iload_n hx hb dX4_when_10 rfl (lv_at hl 1 rfl) ?_
    refine lv_iconst (v := 0) hx hb dX4_when_11 (by decide) ?_
    replace he := b_some he
    obtain ⟨⟨r4, V4⟩, h4, he⟩ := he
    refine kVI C hd hl.1 kw_X4_179 (by decide) cM0 rfl (c_X4_foundSo l G hJ h4) ⟨Nat.le_of_ble_eq_true rfl, Nat.le_of_ble_eq_true rfl⟩ rfl (rest := []) rfl (Nat.le_of_ble_eq_true rfl) dX4_when_12 (fun H locs hd => ?_)
    refine lv_goto (tgt := 24) hx hb dX4_when_15 (by decide) ?_
    exact retIe (cf := (cM G)) C hr hlk hd he dX4_when_24
set_option maxRecDepth 100000 in
set_option maxHeartbeats 4000000 in
theorem c_X4_till (l : Launch) (G : Gd) (hJ : Inj 11 G.2.2) {a1 : Int32} {V V' : VV} {r : Int32} (he : f_X4_till a1 V = some (r, V')) : MI l 11 G XM yX4_till cX4_till 2 8 182 [.ref (G.2.2 0), .int a1] (cM G V) (cM G V') r := by
  refine walk_of (own := RX4) (by decide) rfl hJ (xs_M G) (Nat.le_of_ble_eq_true rfl) ?_
  intro p e s m below meth c C hr hlk ls hl hd
  have hl : lv_has ls 2 [(0, .ref (G.2.2 0)), (1, .int a1)] := hl
  obtain ⟨⟨hx, hb, hml, hown, hts⟩, -⟩ := id C
  unfold f_X4_till at he
  refine lv_aload_n hx hb dX4_till_0 rfl (lv_at hl 0 rfl) ?_
  refine lv_iload_n hx hb dX4_till_1 rfl (lv_at hl 1 rfl) ?_
  replace he := b_some he
  obtain ⟨⟨r1, V1⟩, h1, he⟩ := he
  refine kVZ C hd hl.1 kw_X4_48 (by decide) cM0 rfl (c_X4_isWalker l G hJ h1) ⟨Nat.le_of_ble_eq_true rfl, Nat.le_of_ble_eq_true rfl⟩ rfl (rest := []) rfl (Nat.le_of_ble_eq_true rfl) dX4_till_2 (fun H locs hz1 hd => ?_)
  refine lv_if_eq (tgt := 18) hx hb dX4_till_5 (by decide) (fun hc2 => ?_) (fun hc2 => ?_)
  · replace he := i_t hc2 he
    refine lv_aload_n hx hb dX4_till_18 rfl (lv_at hl 0 rfl) ?_
    refine lv_ldc hx hb hown (hts _ tw768) dX4_till_19 ?_
    replace he := b_some he
    obtain ⟨⟨r3, V3⟩, h3, he⟩ := he
    refine kVI C hd hl.1 kw_X4_66 (by decide) cM0 rfl (c_X4_finds l G hJ h3) ⟨Nat.le_of_ble_eq_true rfl, Nat.le_of_ble_eq_true rfl⟩ rfl (rest := []) rfl (Nat.le_of_ble_eq_true rfl) dX4_till_21 (fun H locs hd => ?_)
    exact retIe (cf := (cM G)) C hr hlk hd he dX4_till_24
  · replace he := i_f hc2 he
    refine lv_aload_n hx hb dX4_till_8 rfl (lv_at hl 0 rfl) ?_
    refine lv_iconst (v := 2) hx hb dX4_till_9 (by decide) ?_
    refine lv_iload_n hx hb dX4_till_10 rfl (lv_at hl 1 rfl) ?_
    refine lv_iconst (v := 0) hx hb dX4_till_11 (by decide) ?_
    replace he := b_some he
    obtain ⟨⟨r4, V4⟩, h4, he⟩ := he
    refine kVI C hd hl.1 kw_X4_179 (by decide) cM0 rfl (c_X4_foundSo l G hJ h4) ⟨Nat.le_of_ble_eq_true rfl, Nat.le_of_ble_eq_true rfl⟩ rfl (rest := []) rfl (Nat.le_of_ble_eq_true rfl) dX4_till_12 (fun H locs hd => ?_)
    refine lv_goto (tgt := 24) hx hb dX4_till_15 (by decide) ?_
    exact retIe (cf := (cM G)) C hr hlk hd he dX4_till_24
set_option maxRecDepth 100000 in
set_option maxHeartbeats 4000000 in
theorem c_X4_glad (l : Launch) (G : Gd) (hJ : Inj 11 G.2.2) {a1 : Int32} {V V' : VV} {r : Int32} (he : f_X4_glad a1 V = some (r, V')) : MI l 11 G XM yX4_glad cX4_glad 2 8 182 [.ref (G.2.2 0), .int a1] (cM G V) (cM G V') r := by
  refine walk_of (own := RX4) (by decide) rfl hJ (xs_M G) (Nat.le_of_ble_eq_true rfl) ?_
  intro p e s m below meth c C hr hlk ls hl hd
  have hl : lv_has ls 2 [(0, .ref (G.2.2 0)), (1, .int a1)] := hl
  obtain ⟨⟨hx, hb, hml, hown, hts⟩, -⟩ := id C
  unfold f_X4_glad at he
  refine lv_aload_n hx hb dX4_glad_0 rfl (lv_at hl 0 rfl) ?_
  refine lv_iload_n hx hb dX4_glad_1 rfl (lv_at hl 1 rfl) ?_
  replace he := b_some he
  obtain ⟨⟨r1, V1⟩, h1, he⟩ := he
  refine kVZ C hd hl.1 kw_X4_48 (by decide) cM0 rfl (c_X4_isWalker l G hJ h1) ⟨Nat.le_of_ble_eq_true rfl, Nat.le_of_ble_eq_true rfl⟩ rfl (rest := []) rfl (Nat.le_of_ble_eq_true rfl) dX4_glad_2 (fun H locs hz1 hd => ?_)
  refine lv_if_eq (tgt := 18) hx hb dX4_glad_5 (by decide) (fun hc2 => ?_) (fun hc2 => ?_)
  · replace he := i_t hc2 he
    refine lv_aload_n hx hb dX4_glad_18 rfl (lv_at hl 0 rfl) ?_
    refine lv_ldc hx hb hown (hts _ tw768) dX4_glad_19 ?_
    replace he := b_some he
    obtain ⟨⟨r3, V3⟩, h3, he⟩ := he
    refine kVI C hd hl.1 kw_X4_66 (by decide) cM0 rfl (c_X4_finds l G hJ h3) ⟨Nat.le_of_ble_eq_true rfl, Nat.le_of_ble_eq_true rfl⟩ rfl (rest := []) rfl (Nat.le_of_ble_eq_true rfl) dX4_glad_21 (fun H locs hd => ?_)
    exact retIe (cf := (cM G)) C hr hlk hd he dX4_glad_24
  · replace he := i_f hc2 he
    refine lv_aload_n hx hb dX4_glad_8 rfl (lv_at hl 0 rfl) ?_
    refine lv_iconst (v := 3) hx hb dX4_glad_9 (by decide) ?_
    refine lv_iload_n hx hb dX4_glad_10 rfl (lv_at hl 1 rfl) ?_
    refine lv_iconst (v := 0) hx hb dX4_glad_11 (by decide) ?_
    replace he := b_some he
    obtain ⟨⟨r4, V4⟩, h4, he⟩ := he
    refine kVI C hd hl.1 kw_X4_179 (by decide) cM0 rfl (c_X4_foundSo l G hJ h4) ⟨Nat.le_of_ble_eq_true rfl, Nat.le_of_ble_eq_true rfl⟩ rfl (rest := []) rfl (Nat.le_of_ble_eq_true rfl) dX4_glad_12 (fun H locs hd => ?_)
    refine lv_goto (tgt := 24) hx hb dX4_glad_15 (by decide) ?_
    exact retIe (cf := (cM G)) C hr hlk hd he dX4_glad_24
set_option maxRecDepth 100000 in
set_option maxHeartbeats 4000000 in
theorem c_X4_begins (l : Launch) (G : Gd) (hJ : Inj 11 G.2.2) {a1 : Int32} {V V' : VV} (he : f_X4_begins a1 V = some V') : MV l 11 G XM yX4_begins cX4_begins 2 0 0 [.ref (G.2.2 0), .int a1] (cM G V) (cM G V') := by
  refine walk_of (own := RX4) (by decide) rfl hJ (xs_M G) (Nat.le_of_ble_eq_true rfl) ?_
  intro p e s m below meth c C hr hlk ls hl hd
  have hl : lv_has ls 2 [(0, .ref (G.2.2 0)), (1, .int a1)] := hl
  obtain ⟨⟨hx, hb, hml, hown, hts⟩, -⟩ := id C
  unfold f_X4_begins at he
  refine lv_aload_n hx hb dX4_begins_0 rfl (lv_at hl 0 rfl) ?_
  refine lv_iconst (v := (-1)) hx hb dX4_begins_1 (by decide) ?_
  replace he := bv_ex he
  obtain ⟨V1, e1, he⟩ := he
  refine rputf (cell' := (cM G) V1) C hd (by decide) cM0 rfl tgX4 tyX4 tyX4_ok nmX4 6 (by decide) tw707 rfl (tyX4_ok 6 (by decide)) rfl rfl (Nat.le_of_ble_eq_true rfl) (cM0_w (by decide) e1) (cM_ne e1) dX4_begins_2 (fun H locs hd => ?_)
  refine lv_aload_n hx hb dX4_begins_5 rfl (lv_at hl 0 rfl) ?_
  refine lv_iload_n hx hb dX4_begins_6 rfl (lv_at hl 1 rfl) ?_
  refine lv_iconst (v := 1) hx hb dX4_begins_7 (by decide) ?_
  refine lv_iadd hx hb dX4_begins_8 ?_
  replace he := bv_ex he
  obtain ⟨V2, e2, he⟩ := he
  refine rputf (cell' := (cM G) V2) C hd (by decide) cM0 rfl tgX4 tyX4 tyX4_ok nmX4 7 (by decide) tw708 rfl (tyX4_ok 7 (by decide)) rfl rfl (Nat.le_of_ble_eq_true rfl) (cM0_w (by decide) e2) (cM_ne e2) dX4_begins_9 (fun H locs hd => ?_)
  exact retVe (cf := (cM G)) C hr hlk hd he dX4_begins_12
set_option maxRecDepth 100000 in
set_option maxHeartbeats 4000000 in
theorem c_X4_tries (l : Launch) (G : Gd) (hJ : Inj 11 G.2.2) {a1 : Int32} {a2 : Int32} {V V' : VV} (he : f_X4_tries a1 a2 V = some V') : MV l 11 G XM yX4_tries cX4_tries 3 0 0 [.ref (G.2.2 0), .int a1, .int a2] (cM G V) (cM G V') := by
  refine walk_of (own := RX4) (by decide) rfl hJ (xs_M G) (Nat.le_of_ble_eq_true rfl) ?_
  intro p e s m below meth c C hr hlk ls hl hd
  have hl : lv_has ls 3 [(0, .ref (G.2.2 0)), (1, .int a1), (2, .int a2)] := hl
  obtain ⟨⟨hx, hb, hml, hown, hts⟩, -⟩ := id C
  unfold f_X4_tries at he
  refine lv_aload_n hx hb dX4_tries_0 rfl (lv_at hl 0 rfl) ?_
  refine lv_iload_n hx hb dX4_tries_1 rfl (lv_at hl 2 rfl) ?_
  refine lv_aload_n hx hb dX4_tries_2 rfl (lv_at hl 0 rfl) ?_
  refine rgetf C hd (by decide) cM0 rfl tgX4 7 (by decide) tw708 rfl dX4_tries_3 ?_
  refine lv_icmp_ge (tgt := 13) hx hb dX4_tries_6 (by decide) (fun hc1 => ?_) (fun hc1 => ?_)
  · replace he := i_t hc1 he
    refine lv_aload_n hx hb dX4_tries_13 rfl (lv_at hl 0 rfl) ?_
    refine rgetf C hd (by decide) cM0 rfl tgX4 6 (by decide) tw707 rfl dX4_tries_14 ?_
    replace he := bv_ex he
    obtain ⟨V2, e2, he⟩ := he
    refine rputf (cell' := (cM G) V2) C hd (by decide) cM0 rfl tgX4 tyX4 tyX4_ok nmX4 6 (by decide) tw707 rfl (tyX4_ok 6 (by decide)) rfl rfl (Nat.le_of_ble_eq_true rfl) (cM0_w (by decide) e2) (cM_ne e2) dX4_tries_17 (fun H locs hd => ?_)
    refine lv_aload_n hx hb dX4_tries_20 rfl (lv_at hl 0 rfl) ?_
    refine lv_iload_n hx hb dX4_tries_21 rfl (lv_at hl 2 rfl) ?_
    refine lv_aload_n hx hb dX4_tries_22 rfl (lv_at hl 0 rfl) ?_
    refine rgetf C hd (by decide) cM0 rfl tgX4 7 (by decide) tw708 rfl dX4_tries_23 ?_
    refine lv_icmp_ge (tgt := 33) hx hb dX4_tries_26 (by decide) (fun hc3 => ?_) (fun hc3 => ?_)
    · replace he := i_t hc3 he
      refine lv_aload_n hx hb dX4_tries_33 rfl (lv_at hl 0 rfl) ?_
      refine rgetf C hd (by decide) cM0 rfl tgX4 7 (by decide) tw708 rfl dX4_tries_34 ?_
      replace he := bv_ex he
      obtain ⟨V4, e4, he⟩ := he
      refine rputf (cell' := (cM G) V4) C hd (by decide) cM0 rfl tgX4 tyX4 tyX4_ok nmX4 7 (by decide) tw708 rfl (tyX4_ok 7 (by decide)) rfl rfl (Nat.le_of_ble_eq_true rfl) (cM0_w (by decide) e4) (cM_ne e4) dX4_tries_37 (fun H locs hd => ?_)
      exact retVe (cf := (cM G)) C hr hlk hd he dX4_tries_40
    · replace he := i_f hc3 he
      refine lv_iload_n hx hb dX4_tries_29 rfl (lv_at hl 2 rfl) ?_
      refine lv_goto (tgt := 37) hx hb dX4_tries_30 (by decide) ?_
      replace he := bv_ex he
      obtain ⟨V5, e5, he⟩ := he
      refine rputf (cell' := (cM G) V5) C hd (by decide) cM0 rfl tgX4 tyX4 tyX4_ok nmX4 7 (by decide) tw708 rfl (tyX4_ok 7 (by decide)) rfl rfl (Nat.le_of_ble_eq_true rfl) (cM0_w (by decide) e5) (cM_ne e5) dX4_tries_37 (fun H locs hd => ?_)
      exact retVe (cf := (cM G)) C hr hlk hd he dX4_tries_40
  · replace he := i_f hc1 he
    refine lv_iload_n hx hb dX4_tries_9 rfl (lv_at hl 1 rfl) ?_
    refine lv_goto (tgt := 17) hx hb dX4_tries_10 (by decide) ?_
    replace he := bv_ex he
    obtain ⟨V6, e6, he⟩ := he
    refine rputf (cell' := (cM G) V6) C hd (by decide) cM0 rfl tgX4 tyX4 tyX4_ok nmX4 6 (by decide) tw707 rfl (tyX4_ok 6 (by decide)) rfl rfl (Nat.le_of_ble_eq_true rfl) (cM0_w (by decide) e6) (cM_ne e6) dX4_tries_17 (fun H locs hd => ?_)
    refine lv_aload_n hx hb dX4_tries_20 rfl (lv_at hl 0 rfl) ?_
    refine lv_iload_n hx hb dX4_tries_21 rfl (lv_at hl 2 rfl) ?_
    refine lv_aload_n hx hb dX4_tries_22 rfl (lv_at hl 0 rfl) ?_
    refine rgetf C hd (by decide) cM0 rfl tgX4 7 (by decide) tw708 rfl dX4_tries_23 ?_
    refine lv_icmp_ge (tgt := 33) hx hb dX4_tries_26 (by decide) (fun hc7 => ?_) (fun hc7 => ?_)
    · replace he := i_t hc7 he
      refine lv_aload_n hx hb dX4_tries_33 rfl (lv_at hl 0 rfl) ?_
      refine rgetf C hd (by decide) cM0 rfl tgX4 7 (by decide) tw708 rfl dX4_tries_34 ?_
      replace he := bv_ex he
      obtain ⟨V8, e8, he⟩ := he
      refine rputf (cell' := (cM G) V8) C hd (by decide) cM0 rfl tgX4 tyX4 tyX4_ok nmX4 7 (by decide) tw708 rfl (tyX4_ok 7 (by decide)) rfl rfl (Nat.le_of_ble_eq_true rfl) (cM0_w (by decide) e8) (cM_ne e8) dX4_tries_37 (fun H locs hd => ?_)
      exact retVe (cf := (cM G)) C hr hlk hd he dX4_tries_40
    · replace he := i_f hc7 he
      refine lv_iload_n hx hb dX4_tries_29 rfl (lv_at hl 2 rfl) ?_
      refine lv_goto (tgt := 37) hx hb dX4_tries_30 (by decide) ?_
      replace he := bv_ex he
      obtain ⟨V9, e9, he⟩ := he
      refine rputf (cell' := (cM G) V9) C hd (by decide) cM0 rfl tgX4 tyX4 tyX4_ok nmX4 7 (by decide) tw708 rfl (tyX4_ok 7 (by decide)) rfl rfl (Nat.le_of_ble_eq_true rfl) (cM0_w (by decide) e9) (cM_ne e9) dX4_tries_37 (fun H locs hd => ?_)
      exact retVe (cf := (cM G)) C hr hlk hd he dX4_tries_40
set_option maxRecDepth 100000 in
set_option maxHeartbeats 4000000 in
theorem c_X4_bestOrNone (l : Launch) (G : Gd) (hJ : Inj 11 G.2.2) {V V' : VV} {r : Int32} (he : f_X4_bestOrNone V = some (r, V')) : MI l 11 G XM yX4_bestOrNone cX4_bestOrNone 1 1 21 [.ref (G.2.2 0)] (cM G V) (cM G V') r := by
  refine walk_of (own := RX4) (by decide) rfl hJ (xs_M G) (Nat.le_of_ble_eq_true rfl) ?_
  intro p e s m below meth c C hr hlk ls hl hd
  have hl : lv_has ls 1 [(0, .ref (G.2.2 0))] := hl
  obtain ⟨⟨hx, hb, hml, hown, hts⟩, -⟩ := id C
  unfold f_X4_bestOrNone at he
  refine lv_aload_n hx hb dX4_bestOrNone_0 rfl (lv_at hl 0 rfl) ?_
  refine rgetf C hd (by decide) cM0 rfl tgX4 6 (by decide) tw707 rfl dX4_bestOrNone_1 ?_
  refine lv_if_ge (tgt := 16) hx hb dX4_bestOrNone_4 (by decide) (fun hc1 => ?_) (fun hc1 => ?_)
  · replace he := i_t hc1 he
    refine lv_aload_n hx hb dX4_bestOrNone_16 rfl (lv_at hl 0 rfl) ?_
    refine rgetf C hd (by decide) cM0 rfl tgX4 6 (by decide) tw707 rfl dX4_bestOrNone_17 ?_
    exact retIe (cf := (cM G)) C hr hlk hd he dX4_bestOrNone_20
  · replace he := i_f hc1 he
    refine lv_aload_n hx hb dX4_bestOrNone_7 rfl (lv_at hl 0 rfl) ?_
    refine lv_ldc hx hb hown (hts _ tw961) dX4_bestOrNone_8 ?_
    replace he := b_some he
    obtain ⟨⟨r2, V2⟩, h2, he⟩ := he
    refine kVI C hd hl.1 kw_X4_66 (by decide) cM0 rfl (c_X4_finds l G hJ h2) ⟨Nat.le_of_ble_eq_true rfl, Nat.le_of_ble_eq_true rfl⟩ rfl (rest := []) rfl (Nat.le_of_ble_eq_true rfl) dX4_bestOrNone_10 (fun H locs hd => ?_)
    refine lv_goto (tgt := 20) hx hb dX4_bestOrNone_13 (by decide) ?_
    exact retIe (cf := (cM G)) C hr hlk hd he dX4_bestOrNone_20
set_option maxRecDepth 100000 in
set_option maxHeartbeats 4000000 in
theorem c_X4_heading (l : Launch) (G : Gd) (hJ : Inj 11 G.2.2) {a1 : Int32} {a2 : Int32} {V V' : VV} {r : Int32} (he : f_X4_heading a1 a2 V = some (r, V')) : MI l 11 G XM yX4_heading cX4_heading 4 7 158 [.ref (G.2.2 0), .int a1, .int a2] (cM G V) (cM G V') r := by
  refine walk_of (own := RX4) (by decide) rfl hJ (xs_M G) (Nat.le_of_ble_eq_true rfl) ?_
  intro p e s m below meth c C hr hlk ls hl hd
  have hl : lv_has ls 4 [(0, .ref (G.2.2 0)), (1, .int a1), (2, .int a2)] := hl
  obtain ⟨⟨hx, hb, hml, hown, hts⟩, -⟩ := id C
  have L28 : ∀ (fuel : Nat) (x1 : Int32) (x2 : Int32) (x3 : Int32) (V : VV) (H : Heap) (locs : List Loc) (ls : Array Slot), lv_has ls 4 [(0, .ref (G.2.2 0)), (1, .int x1), (2, .int x2), (3, .int x3)] → Dy 11 G (cM G V) s H locs → f_X4_heading_L28 fuel x1 x2 x3 V = some (r, V') → W p l e (rmF 7 158) s m ([.ref (G.2.2 0), .int a1, .int a2] : List Value).toArray below meth c H locs 0 0 (MQ below (QI 11 G (cM G V') (fun r' => r' = r)) ([.ref (G.2.2 0), .int a1, .int a2] : List Value).toArray s 0 0 (inA 11 G.2.2)) (F0 m 28 ls []) := by
    intro fuel
    induction fuel with
    | zero => intro x1 x2 x3 V H locs ls hl hd he; simp [f_X4_heading_L28] at he
    | succ n ih28 =>
      intro x1 x2 x3 V H locs ls hl hd he
      rw [f_X4_heading_L28] at he
      refine lv_iload_n hx hb dX4_heading_28 rfl (lv_at hl 3 rfl) ?_
      refine lv_iconst (v := 4) hx hb dX4_heading_29 (by decide) ?_
      refine lv_icmp_ge (tgt := 68) hx hb dX4_heading_30 (by decide) (fun hc5 => ?_) (fun hc5 => ?_)
      · replace he := i_t hc5 he
        refine lv_aload_n hx hb dX4_heading_68 rfl (lv_at hl 0 rfl) ?_
        replace he := b_some he
        obtain ⟨⟨r6, V6⟩, h6, he⟩ := he
        refine kVI C hd hl.1 kw_X4_196 (by decide) cM0 rfl (c_X4_bestOrNone l G hJ h6) ⟨Nat.le_of_ble_eq_true rfl, Nat.le_of_ble_eq_true rfl⟩ rfl (rest := []) rfl (Nat.le_of_ble_eq_true rfl) dX4_heading_69 (fun H locs hd => ?_)
        exact retIe (cf := (cM G)) C hr hlk hd he dX4_heading_72
      · replace he := i_f hc5 he
        refine lv_aload_n hx hb dX4_heading_33 rfl (lv_at hl 0 rfl) ?_
        refine rgetf C hd (by decide) cM0 rfl tgX4 0 (by decide) tw701 rfl dX4_heading_34 ?_
        refine lv_iload_n hx hb dX4_heading_37 rfl (lv_at hl 1 rfl) ?_
        refine lv_iconst (v := 3) hx hb dX4_heading_38 (by decide) ?_
        replace he := b_some he
        obtain ⟨⟨r7, V7⟩, h7, he⟩ := he
        refine kSI C hd hl.1 kw_X4_54 (c_X4_spotOf l G hJ h7) ⟨Nat.le_of_ble_eq_true rfl, Nat.le_of_ble_eq_true rfl⟩ rfl (rest := [.ref _]) rfl (Nat.le_of_ble_eq_true rfl) dX4_heading_39 (fun H locs hd => ?_)
        refine lv_iload_n hx hb dX4_heading_42 rfl (lv_at hl 3 rfl) ?_
        replace he := g_some he
        obtain ⟨hi8, he⟩ := he
        replace he := bv_ex he
        obtain ⟨V9, e9, he⟩ := he
        refine riast (cell' := (cM G) V9) C hd (by decide) cMa1 hi8 (cMaw1 e9) (cM_ne e9) dX4_heading_43 (fun H locs hd => ?_)
        refine lv_aload_n hx hb dX4_heading_44 rfl (lv_at hl 0 rfl) ?_
        refine lv_iload_n hx hb dX4_heading_45 rfl (lv_at hl 3 rfl) ?_
        refine lv_aload_n hx hb dX4_heading_46 rfl (lv_at hl 0 rfl) ?_
        refine lv_aload_n hx hb dX4_heading_47 rfl (lv_at hl 0 rfl) ?_
        refine lv_iconst (v := 0) hx hb dX4_heading_48 (by decide) ?_
        refine lv_iload_n hx hb dX4_heading_49 rfl (lv_at hl 1 rfl) ?_
        refine lv_iload_n hx hb dX4_heading_50 rfl (lv_at hl 2 rfl) ?_
        refine lv_bipush (v := 100) hx hb dX4_heading_51 (by decide) ?_
        replace he := b_some he
        obtain ⟨⟨r10, V10⟩, h10, he⟩ := he
        refine kVI C hd hl.1 kw_X4_174 (by decide) cM0 rfl (c_X4_firstSo l G hJ h10) ⟨Nat.le_of_ble_eq_true rfl, Nat.le_of_ble_eq_true rfl⟩ rfl (rest := [.ref _, .int _, .ref _]) rfl (Nat.le_of_ble_eq_true rfl) dX4_heading_53 (fun H locs hd => ?_)
        replace he := b_some he
        obtain ⟨⟨r11, V11⟩, h11, he⟩ := he
        refine kVI C hd hl.1 kw_X4_167 (by decide) cM0 rfl (c_X4_takesBack l G hJ h11) ⟨Nat.le_of_ble_eq_true rfl, Nat.le_of_ble_eq_true rfl⟩ rfl (rest := [.int _, .ref _]) rfl (Nat.le_of_ble_eq_true rfl) dX4_heading_56 (fun H locs hd => ?_)
        replace he := b_some he
        obtain ⟨V12, h12, he⟩ := he
        refine kVV C hd hl.1 kw_X4_193 (by decide) cM0 rfl (c_X4_tries l G hJ h12) ⟨Nat.le_of_ble_eq_true rfl, Nat.le_of_ble_eq_true rfl⟩ rfl (rest := []) rfl (Nat.le_of_ble_eq_true rfl) dX4_heading_59 (fun H locs hd => ?_)
        refine lv_iinc (v := _ + 1) (lv' := [(3, .int _), (0, .ref _), (1, .int _), (2, .int _)]) hx hb dX4_heading_62 hl (k := 3) rfl rfl (by decide) rfl (fun ls hl => ?_)
        refine lv_goto (tgt := 28) hx hb dX4_heading_65 (by decide) ?_
        exact ih28 _ _ _ _ _ _ _ (lv_sub hl [1, 2, 3, 0] rfl) hd he
  unfold f_X4_heading at he
  refine lv_aload_n hx hb dX4_heading_0 rfl (lv_at hl 0 rfl) ?_
  refine lv_iload_n hx hb dX4_heading_1 rfl (lv_at hl 1 rfl) ?_
  refine lv_iload_n hx hb dX4_heading_2 rfl (lv_at hl 2 rfl) ?_
  replace he := b_some he
  obtain ⟨⟨r1, V1⟩, h1, he⟩ := he
  refine kVZ C hd hl.1 kw_X4_118 (by decide) cM0 rfl (c_X4_areTwo l G hJ h1) ⟨Nat.le_of_ble_eq_true rfl, Nat.le_of_ble_eq_true rfl⟩ rfl (rest := []) rfl (Nat.le_of_ble_eq_true rfl) dX4_heading_3 (fun H locs hz1 hd => ?_)
  refine lv_if_ne (tgt := 16) hx hb dX4_heading_6 (by decide) (fun hc2 => ?_) (fun hc2 => ?_)
  · replace he := i_f hc2 he
    refine lv_aload_n hx hb dX4_heading_16 rfl (lv_at hl 0 rfl) ?_
    refine lv_bipush (v := 100) hx hb dX4_heading_17 (by decide) ?_
    replace he := b_some he
    obtain ⟨V3, h3, he⟩ := he
    refine kVV C hd hl.1 kw_X4_190 (by decide) cM0 rfl (c_X4_begins l G hJ h3) ⟨Nat.le_of_ble_eq_true rfl, Nat.le_of_ble_eq_true rfl⟩ rfl (rest := []) rfl (Nat.le_of_ble_eq_true rfl) dX4_heading_19 (fun H locs hd => ?_)
    refine lv_aload_n hx hb dX4_heading_22 rfl (lv_at hl 0 rfl) ?_
    replace he := b_some he
    obtain ⟨V4, h4, he⟩ := he
    refine kVV C hd hl.1 kw_X4_164 (by decide) cM0 rfl (c_X4_laysAside l G hJ h4) ⟨Nat.le_of_ble_eq_true rfl, Nat.le_of_ble_eq_true rfl⟩ rfl (rest := []) rfl (Nat.le_of_ble_eq_true rfl) dX4_heading_23 (fun H locs hd => ?_)
    refine lv_iconst (v := 0) hx hb dX4_heading_26 (by decide) ?_
    refine lv_istore_n (lv' := [(3, .int _), (0, .ref _), (1, .int _), (2, .int _)]) hx hb dX4_heading_27 rfl hl (by decide) rfl (fun ls hl => ?_)
    exact L28 200 _ _ _ _ _ _ _ (lv_sub hl [1, 2, 3, 0] rfl) hd he
  · replace he := i_t hc2 he
    refine lv_aload_n hx hb dX4_heading_9 rfl (lv_at hl 0 rfl) ?_
    refine lv_ldc hx hb hown (hts _ tw768) dX4_heading_10 ?_
    replace he := b_some he
    obtain ⟨⟨r13, V13⟩, h13, he⟩ := he
    refine kVI C hd hl.1 kw_X4_66 (by decide) cM0 rfl (c_X4_finds l G hJ h13) ⟨Nat.le_of_ble_eq_true rfl, Nat.le_of_ble_eq_true rfl⟩ rfl (rest := []) rfl (Nat.le_of_ble_eq_true rfl) dX4_heading_12 (fun H locs hd => ?_)
    exact retIe (cf := (cM G)) C hr hlk hd he dX4_heading_15
set_option maxRecDepth 100000 in
set_option maxHeartbeats 4000000 in
theorem c_X4_begin (l : Launch) (G : Gd) (hJ : Inj 11 G.2.2) {a1 : Int32} {a2 : Int32} {V V' : VV} {r : Int32} (he : f_X4_begin a1 a2 V = some (r, V')) : MI l 11 G XM yX4_begin cX4_begin 5 7 158 [.ref (G.2.2 0), .int a1, .int a2] (cM G V) (cM G V') r := by
  refine walk_of (own := RX4) (by decide) rfl hJ (xs_M G) (Nat.le_of_ble_eq_true rfl) ?_
  intro p e s m below meth c C hr hlk ls hl hd
  have hl : lv_has ls 5 [(0, .ref (G.2.2 0)), (1, .int a1), (2, .int a2)] := hl
  obtain ⟨⟨hx, hb, hml, hown, hts⟩, -⟩ := id C
  have L28 : ∀ (fuel : Nat) (x1 : Int32) (x2 : Int32) (x3 : Int32) (V : VV) (H : Heap) (locs : List Loc) (ls : Array Slot), lv_has ls 5 [(0, .ref (G.2.2 0)), (1, .int x1), (2, .int x2), (3, .int x3)] → Dy 11 G (cM G V) s H locs → f_X4_begin_L28 fuel x1 x2 x3 V = some (r, V') → W p l e (rmF 7 158) s m ([.ref (G.2.2 0), .int a1, .int a2] : List Value).toArray below meth c H locs 0 0 (MQ below (QI 11 G (cM G V') (fun r' => r' = r)) ([.ref (G.2.2 0), .int a1, .int a2] : List Value).toArray s 0 0 (inA 11 G.2.2)) (F0 m 28 ls []) := by
    intro fuel
    induction fuel with
    | zero => intro x1 x2 x3 V H locs ls hl hd he; simp [f_X4_begin_L28] at he
    | succ n ih28 =>
      intro x1 x2 x3 V H locs ls hl hd he
      rw [f_X4_begin_L28] at he
      refine lv_iload_n hx hb dX4_begin_28 rfl (lv_at hl 3 rfl) ?_
      refine lv_bipush (v := 36) hx hb dX4_begin_29 (by decide) ?_
      refine lv_icmp_ge (tgt := 88) hx hb dX4_begin_31 (by decide) (fun hc5 => ?_) (fun hc5 => ?_)
      · replace he := i_t hc5 he
        refine lv_aload_n hx hb dX4_begin_88 rfl (lv_at hl 0 rfl) ?_
        replace he := b_some he
        obtain ⟨⟨r6, V6⟩, h6, he⟩ := he
        refine kVI C hd hl.1 kw_X4_196 (by decide) cM0 rfl (c_X4_bestOrNone l G hJ h6) ⟨Nat.le_of_ble_eq_true rfl, Nat.le_of_ble_eq_true rfl⟩ rfl (rest := []) rfl (Nat.le_of_ble_eq_true rfl) dX4_begin_89 (fun H locs hd => ?_)
        exact retIe (cf := (cM G)) C hr hlk hd he dX4_begin_92
      · replace he := i_f hc5 he
        refine lv_aload_n hx hb dX4_begin_34 rfl (lv_at hl 0 rfl) ?_
        refine lv_iload_n hx hb dX4_begin_35 rfl (lv_at hl 1 rfl) ?_
        replace he := b_some he
        obtain ⟨⟨r7, V7⟩, h7, he⟩ := he
        refine kVZ C hd hl.1 kw_X4_95 (by decide) cM0 rfl (c_X4_isFree l G hJ h7) ⟨Nat.le_of_ble_eq_true rfl, Nat.le_of_ble_eq_true rfl⟩ rfl (rest := []) rfl (Nat.le_of_ble_eq_true rfl) dX4_begin_36 (fun H locs hz7 hd => ?_)
        refine lv_if_eq (tgt := 46) hx hb dX4_begin_39 (by decide) (fun hc8 => ?_) (fun hc8 => ?_)
        · replace he := i_t hc8 he
          refine lv_aload_n hx hb dX4_begin_46 rfl (lv_at hl 0 rfl) ?_
          refine lv_iload_n hx hb dX4_begin_47 rfl (lv_at hl 1 rfl) ?_
          replace he := b_some he
          obtain ⟨⟨r9, V9⟩, h9, he⟩ := he
          refine kVI C hd hl.1 kw_X4_115 (by decide) cM0 rfl (c_X4_lets l G hJ h9) ⟨Nat.le_of_ble_eq_true rfl, Nat.le_of_ble_eq_true rfl⟩ rfl (rest := []) rfl (Nat.le_of_ble_eq_true rfl) dX4_begin_48 (fun H locs hd => ?_)
          refine lv_istore (lv' := [(4, .int _), (0, .ref _), (1, .int _), (2, .int _), (3, .int _)]) hx hb dX4_begin_51 hl (by decide) rfl (fun ls hl => ?_)
          refine lv_aload_n hx hb dX4_begin_53 rfl (lv_at hl 1 rfl) ?_
          refine rgetf C hd (by decide) cM0 rfl tgX4 0 (by decide) tw701 rfl dX4_begin_54 ?_
          refine lv_iload_n hx hb dX4_begin_57 rfl (lv_at hl 2 rfl) ?_
          refine lv_iconst (v := 1) hx hb dX4_begin_58 (by decide) ?_
          replace he := b_some he
          obtain ⟨⟨r10, V10⟩, h10, he⟩ := he
          refine kSI C hd hl.1 kw_X4_54 (c_X4_spotOf l G hJ h10) ⟨Nat.le_of_ble_eq_true rfl, Nat.le_of_ble_eq_true rfl⟩ rfl (rest := [.ref _]) rfl (Nat.le_of_ble_eq_true rfl) dX4_begin_59 (fun H locs hd => ?_)
          refine lv_iload_n hx hb dX4_begin_62 rfl (lv_at hl 4 rfl) ?_
          replace he := g_some he
          obtain ⟨hi11, he⟩ := he
          replace he := bv_ex he
          obtain ⟨V12, e12, he⟩ := he
          refine riast (cell' := (cM G) V12) C hd (by decide) cMa1 hi11 (cMaw1 e12) (cM_ne e12) dX4_begin_63 (fun H locs hd => ?_)
          refine lv_aload_n hx hb dX4_begin_64 rfl (lv_at hl 1 rfl) ?_
          refine lv_iload_n hx hb dX4_begin_65 rfl (lv_at hl 4 rfl) ?_
          refine lv_aload_n hx hb dX4_begin_66 rfl (lv_at hl 1 rfl) ?_
          refine lv_aload_n hx hb dX4_begin_67 rfl (lv_at hl 1 rfl) ?_
          refine lv_iconst (v := 0) hx hb dX4_begin_68 (by decide) ?_
          refine lv_iload_n hx hb dX4_begin_69 rfl (lv_at hl 2 rfl) ?_
          refine lv_iload_n hx hb dX4_begin_70 rfl (lv_at hl 3 rfl) ?_
          refine lv_bipush (v := 30) hx hb dX4_begin_71 (by decide) ?_
          replace he := b_some he
          obtain ⟨⟨r13, V13⟩, h13, he⟩ := he
          refine kVI C hd hl.1 kw_X4_174 (by decide) cM0 rfl (c_X4_firstSo l G hJ h13) ⟨Nat.le_of_ble_eq_true rfl, Nat.le_of_ble_eq_true rfl⟩ rfl (rest := [.ref _, .int _, .ref _]) rfl (Nat.le_of_ble_eq_true rfl) dX4_begin_73 (fun H locs hd => ?_)
          replace he := b_some he
          obtain ⟨⟨r14, V14⟩, h14, he⟩ := he
          refine kVI C hd hl.1 kw_X4_167 (by decide) cM0 rfl (c_X4_takesBack l G hJ h14) ⟨Nat.le_of_ble_eq_true rfl, Nat.le_of_ble_eq_true rfl⟩ rfl (rest := [.int _, .ref _]) rfl (Nat.le_of_ble_eq_true rfl) dX4_begin_76 (fun H locs hd => ?_)
          replace he := b_some he
          obtain ⟨V15, h15, he⟩ := he
          refine kVV C hd hl.1 kw_X4_193 (by decide) cM0 rfl (c_X4_tries l G hJ h15) ⟨Nat.le_of_ble_eq_true rfl, Nat.le_of_ble_eq_true rfl⟩ rfl (rest := []) rfl (Nat.le_of_ble_eq_true rfl) dX4_begin_79 (fun H locs hd => ?_)
          refine lv_iinc (v := _ + 1) (lv' := [(3, .int _), (4, .int _), (0, .ref _), (1, .int _), (2, .int _)]) hx hb dX4_begin_82 hl (k := 4) rfl rfl (by decide) rfl (fun ls hl => ?_)
          refine lv_goto (tgt := 28) hx hb dX4_begin_85 (by decide) ?_
          exact ih28 _ _ _ _ _ _ _ (lv_sub hl [2, 3, 4, 0] rfl) hd he
        · replace he := i_f hc8 he
          refine lv_iconst (v := (-1)) hx hb dX4_begin_42 (by decide) ?_
          refine lv_goto (tgt := 51) hx hb dX4_begin_43 (by decide) ?_
          refine lv_istore (lv' := [(4, .int _), (0, .ref _), (1, .int _), (2, .int _), (3, .int _)]) hx hb dX4_begin_51 hl (by decide) rfl (fun ls hl => ?_)
          refine lv_aload_n hx hb dX4_begin_53 rfl (lv_at hl 1 rfl) ?_
          refine rgetf C hd (by decide) cM0 rfl tgX4 0 (by decide) tw701 rfl dX4_begin_54 ?_
          refine lv_iload_n hx hb dX4_begin_57 rfl (lv_at hl 2 rfl) ?_
          refine lv_iconst (v := 1) hx hb dX4_begin_58 (by decide) ?_
          replace he := b_some he
          obtain ⟨⟨r16, V16⟩, h16, he⟩ := he
          refine kSI C hd hl.1 kw_X4_54 (c_X4_spotOf l G hJ h16) ⟨Nat.le_of_ble_eq_true rfl, Nat.le_of_ble_eq_true rfl⟩ rfl (rest := [.ref _]) rfl (Nat.le_of_ble_eq_true rfl) dX4_begin_59 (fun H locs hd => ?_)
          refine lv_iload_n hx hb dX4_begin_62 rfl (lv_at hl 4 rfl) ?_
          replace he := g_some he
          obtain ⟨hi17, he⟩ := he
          replace he := bv_ex he
          obtain ⟨V18, e18, he⟩ := he
          refine riast (cell' := (cM G) V18) C hd (by decide) cMa1 hi17 (cMaw1 e18) (cM_ne e18) dX4_begin_63 (fun H locs hd => ?_)
          refine lv_aload_n hx hb dX4_begin_64 rfl (lv_at hl 1 rfl) ?_
          refine lv_iload_n hx hb dX4_begin_65 rfl (lv_at hl 4 rfl) ?_
          refine lv_aload_n hx hb dX4_begin_66 rfl (lv_at hl 1 rfl) ?_
          refine lv_aload_n hx hb dX4_begin_67 rfl (lv_at hl 1 rfl) ?_
          refine lv_iconst (v := 0) hx hb dX4_begin_68 (by decide) ?_
          refine lv_iload_n hx hb dX4_begin_69 rfl (lv_at hl 2 rfl) ?_
          refine lv_iload_n hx hb dX4_begin_70 rfl (lv_at hl 3 rfl) ?_
          refine lv_bipush (v := 30) hx hb dX4_begin_71 (by decide) ?_
          replace he := b_some he
          obtain ⟨⟨r19, V19⟩, h19, he⟩ := he
          refine kVI C hd hl.1 kw_X4_174 (by decide) cM0 rfl (c_X4_firstSo l G hJ h19) ⟨Nat.le_of_ble_eq_true rfl, Nat.le_of_ble_eq_true rfl⟩ rfl (rest := [.ref _, .int _, .ref _]) rfl (Nat.le_of_ble_eq_true rfl) dX4_begin_73 (fun H locs hd => ?_)
          replace he := b_some he
          obtain ⟨⟨r20, V20⟩, h20, he⟩ := he
          refine kVI C hd hl.1 kw_X4_167 (by decide) cM0 rfl (c_X4_takesBack l G hJ h20) ⟨Nat.le_of_ble_eq_true rfl, Nat.le_of_ble_eq_true rfl⟩ rfl (rest := [.int _, .ref _]) rfl (Nat.le_of_ble_eq_true rfl) dX4_begin_76 (fun H locs hd => ?_)
          replace he := b_some he
          obtain ⟨V21, h21, he⟩ := he
          refine kVV C hd hl.1 kw_X4_193 (by decide) cM0 rfl (c_X4_tries l G hJ h21) ⟨Nat.le_of_ble_eq_true rfl, Nat.le_of_ble_eq_true rfl⟩ rfl (rest := []) rfl (Nat.le_of_ble_eq_true rfl) dX4_begin_79 (fun H locs hd => ?_)
          refine lv_iinc (v := _ + 1) (lv' := [(3, .int _), (4, .int _), (0, .ref _), (1, .int _), (2, .int _)]) hx hb dX4_begin_82 hl (k := 4) rfl rfl (by decide) rfl (fun ls hl => ?_)
          refine lv_goto (tgt := 28) hx hb dX4_begin_85 (by decide) ?_
          exact ih28 _ _ _ _ _ _ _ (lv_sub hl [2, 3, 4, 0] rfl) hd he
  unfold f_X4_begin at he
  refine lv_aload_n hx hb dX4_begin_0 rfl (lv_at hl 0 rfl) ?_
  refine lv_iload_n hx hb dX4_begin_1 rfl (lv_at hl 1 rfl) ?_
  refine lv_iload_n hx hb dX4_begin_2 rfl (lv_at hl 2 rfl) ?_
  replace he := b_some he
  obtain ⟨⟨r1, V1⟩, h1, he⟩ := he
  refine kVZ C hd hl.1 kw_X4_118 (by decide) cM0 rfl (c_X4_areTwo l G hJ h1) ⟨Nat.le_of_ble_eq_true rfl, Nat.le_of_ble_eq_true rfl⟩ rfl (rest := []) rfl (Nat.le_of_ble_eq_true rfl) dX4_begin_3 (fun H locs hz1 hd => ?_)
  refine lv_if_ne (tgt := 16) hx hb dX4_begin_6 (by decide) (fun hc2 => ?_) (fun hc2 => ?_)
  · replace he := i_f hc2 he
    refine lv_aload_n hx hb dX4_begin_16 rfl (lv_at hl 0 rfl) ?_
    refine lv_bipush (v := 30) hx hb dX4_begin_17 (by decide) ?_
    replace he := b_some he
    obtain ⟨V3, h3, he⟩ := he
    refine kVV C hd hl.1 kw_X4_190 (by decide) cM0 rfl (c_X4_begins l G hJ h3) ⟨Nat.le_of_ble_eq_true rfl, Nat.le_of_ble_eq_true rfl⟩ rfl (rest := []) rfl (Nat.le_of_ble_eq_true rfl) dX4_begin_19 (fun H locs hd => ?_)
    refine lv_aload_n hx hb dX4_begin_22 rfl (lv_at hl 0 rfl) ?_
    replace he := b_some he
    obtain ⟨V4, h4, he⟩ := he
    refine kVV C hd hl.1 kw_X4_164 (by decide) cM0 rfl (c_X4_laysAside l G hJ h4) ⟨Nat.le_of_ble_eq_true rfl, Nat.le_of_ble_eq_true rfl⟩ rfl (rest := []) rfl (Nat.le_of_ble_eq_true rfl) dX4_begin_23 (fun H locs hd => ?_)
    refine lv_iconst (v := 0) hx hb dX4_begin_26 (by decide) ?_
    refine lv_istore_n (lv' := [(3, .int _), (0, .ref _), (1, .int _), (2, .int _)]) hx hb dX4_begin_27 rfl hl (by decide) rfl (fun ls hl => ?_)
    exact L28 200 _ _ _ _ _ _ _ (lv_sub hl [1, 2, 3, 0] rfl) hd he
  · replace he := i_t hc2 he
    refine lv_aload_n hx hb dX4_begin_9 rfl (lv_at hl 0 rfl) ?_
    refine lv_ldc hx hb hown (hts _ tw768) dX4_begin_10 ?_
    replace he := b_some he
    obtain ⟨⟨r22, V22⟩, h22, he⟩ := he
    refine kVI C hd hl.1 kw_X4_66 (by decide) cM0 rfl (c_X4_finds l G hJ h22) ⟨Nat.le_of_ble_eq_true rfl, Nat.le_of_ble_eq_true rfl⟩ rfl (rest := []) rfl (Nat.le_of_ble_eq_true rfl) dX4_begin_12 (fun H locs hd => ?_)
    exact retIe (cf := (cM G)) C hr hlk hd he dX4_begin_15
set_option maxRecDepth 100000 in
set_option maxHeartbeats 4000000 in
theorem c_X4_kind (l : Launch) (G : Gd) (hJ : Inj 11 G.2.2) {a1 : Int32} {V V' : VV} {r : Int32} (he : f_X4_kind a1 V = some (r, V')) : MI l 11 G XM yX4_kind cX4_kind 3 7 158 [.ref (G.2.2 0), .int a1] (cM G V) (cM G V') r := by
  refine walk_of (own := RX4) (by decide) rfl hJ (xs_M G) (Nat.le_of_ble_eq_true rfl) ?_
  intro p e s m below meth c C hr hlk ls hl hd
  have hl : lv_has ls 3 [(0, .ref (G.2.2 0)), (1, .int a1)] := hl
  obtain ⟨⟨hx, hb, hml, hown, hts⟩, -⟩ := id C
  have L27 : ∀ (fuel : Nat) (x1 : Int32) (x2 : Int32) (V : VV) (H : Heap) (locs : List Loc) (ls : Array Slot), lv_has ls 3 [(0, .ref (G.2.2 0)), (1, .int x1), (2, .int x2)] → Dy 11 G (cM G V) s H locs → f_X4_kind_L27 fuel x1 x2 V = some (r, V') → W p l e (rmF 7 158) s m ([.ref (G.2.2 0), .int a1] : List Value).toArray below meth c H locs 0 0 (MQ below (QI 11 G (cM G V') (fun r' => r' = r)) ([.ref (G.2.2 0), .int a1] : List Value).toArray s 0 0 (inA 11 G.2.2)) (F0 m 27 ls []) := by
    intro fuel
    induction fuel with
    | zero => intro x1 x2 V H locs ls hl hd he; simp [f_X4_kind_L27] at he
    | succ n ih27 =>
      intro x1 x2 V H locs ls hl hd he
      rw [f_X4_kind_L27] at he
      refine lv_iload_n hx hb dX4_kind_27 rfl (lv_at hl 2 rfl) ?_
      refine lv_iconst (v := 5) hx hb dX4_kind_28 (by decide) ?_
      refine lv_icmp_gt (tgt := 67) hx hb dX4_kind_29 (by decide) (fun hc5 => ?_) (fun hc5 => ?_)
      · replace he := i_t hc5 he
        refine lv_aload_n hx hb dX4_kind_67 rfl (lv_at hl 0 rfl) ?_
        replace he := b_some he
        obtain ⟨⟨r6, V6⟩, h6, he⟩ := he
        refine kVI C hd hl.1 kw_X4_196 (by decide) cM0 rfl (c_X4_bestOrNone l G hJ h6) ⟨Nat.le_of_ble_eq_true rfl, Nat.le_of_ble_eq_true rfl⟩ rfl (rest := []) rfl (Nat.le_of_ble_eq_true rfl) dX4_kind_68 (fun H locs hd => ?_)
        exact retIe (cf := (cM G)) C hr hlk hd he dX4_kind_71
      · replace he := i_f hc5 he
        refine lv_aload_n hx hb dX4_kind_32 rfl (lv_at hl 0 rfl) ?_
        refine rgetf C hd (by decide) cM0 rfl tgX4 0 (by decide) tw701 rfl dX4_kind_33 ?_
        refine lv_iload_n hx hb dX4_kind_36 rfl (lv_at hl 1 rfl) ?_
        refine lv_iconst (v := 0) hx hb dX4_kind_37 (by decide) ?_
        replace he := b_some he
        obtain ⟨⟨r7, V7⟩, h7, he⟩ := he
        refine kSI C hd hl.1 kw_X4_54 (c_X4_spotOf l G hJ h7) ⟨Nat.le_of_ble_eq_true rfl, Nat.le_of_ble_eq_true rfl⟩ rfl (rest := [.ref _]) rfl (Nat.le_of_ble_eq_true rfl) dX4_kind_38 (fun H locs hd => ?_)
        refine lv_iload_n hx hb dX4_kind_41 rfl (lv_at hl 2 rfl) ?_
        replace he := g_some he
        obtain ⟨hi8, he⟩ := he
        replace he := bv_ex he
        obtain ⟨V9, e9, he⟩ := he
        refine riast (cell' := (cM G) V9) C hd (by decide) cMa1 hi8 (cMaw1 e9) (cM_ne e9) dX4_kind_42 (fun H locs hd => ?_)
        refine lv_aload_n hx hb dX4_kind_43 rfl (lv_at hl 0 rfl) ?_
        refine lv_iload_n hx hb dX4_kind_44 rfl (lv_at hl 2 rfl) ?_
        refine lv_aload_n hx hb dX4_kind_45 rfl (lv_at hl 0 rfl) ?_
        refine lv_aload_n hx hb dX4_kind_46 rfl (lv_at hl 0 rfl) ?_
        refine lv_iconst (v := 1) hx hb dX4_kind_47 (by decide) ?_
        refine lv_iload_n hx hb dX4_kind_48 rfl (lv_at hl 1 rfl) ?_
        refine lv_iconst (v := 0) hx hb dX4_kind_49 (by decide) ?_
        refine lv_bipush (v := 100) hx hb dX4_kind_50 (by decide) ?_
        replace he := b_some he
        obtain ⟨⟨r10, V10⟩, h10, he⟩ := he
        refine kVI C hd hl.1 kw_X4_174 (by decide) cM0 rfl (c_X4_firstSo l G hJ h10) ⟨Nat.le_of_ble_eq_true rfl, Nat.le_of_ble_eq_true rfl⟩ rfl (rest := [.ref _, .int _, .ref _]) rfl (Nat.le_of_ble_eq_true rfl) dX4_kind_52 (fun H locs hd => ?_)
        replace he := b_some he
        obtain ⟨⟨r11, V11⟩, h11, he⟩ := he
        refine kVI C hd hl.1 kw_X4_167 (by decide) cM0 rfl (c_X4_takesBack l G hJ h11) ⟨Nat.le_of_ble_eq_true rfl, Nat.le_of_ble_eq_true rfl⟩ rfl (rest := [.int _, .ref _]) rfl (Nat.le_of_ble_eq_true rfl) dX4_kind_55 (fun H locs hd => ?_)
        replace he := b_some he
        obtain ⟨V12, h12, he⟩ := he
        refine kVV C hd hl.1 kw_X4_193 (by decide) cM0 rfl (c_X4_tries l G hJ h12) ⟨Nat.le_of_ble_eq_true rfl, Nat.le_of_ble_eq_true rfl⟩ rfl (rest := []) rfl (Nat.le_of_ble_eq_true rfl) dX4_kind_58 (fun H locs hd => ?_)
        refine lv_iinc (v := _ + 1) (lv' := [(2, .int _), (0, .ref _), (1, .int _)]) hx hb dX4_kind_61 hl (k := 2) rfl rfl (by decide) rfl (fun ls hl => ?_)
        refine lv_goto (tgt := 27) hx hb dX4_kind_64 (by decide) ?_
        exact ih27 _ _ _ _ _ _ (lv_sub hl [1, 2, 0] rfl) hd he
  unfold f_X4_kind at he
  refine lv_aload_n hx hb dX4_kind_0 rfl (lv_at hl 0 rfl) ?_
  refine lv_iload_n hx hb dX4_kind_1 rfl (lv_at hl 1 rfl) ?_
  replace he := b_some he
  obtain ⟨⟨r1, V1⟩, h1, he⟩ := he
  refine kVZ C hd hl.1 kw_X4_48 (by decide) cM0 rfl (c_X4_isWalker l G hJ h1) ⟨Nat.le_of_ble_eq_true rfl, Nat.le_of_ble_eq_true rfl⟩ rfl (rest := []) rfl (Nat.le_of_ble_eq_true rfl) dX4_kind_2 (fun H locs hz1 hd => ?_)
  refine lv_if_ne (tgt := 15) hx hb dX4_kind_5 (by decide) (fun hc2 => ?_) (fun hc2 => ?_)
  · replace he := i_f hc2 he
    refine lv_aload_n hx hb dX4_kind_15 rfl (lv_at hl 0 rfl) ?_
    refine lv_bipush (v := 100) hx hb dX4_kind_16 (by decide) ?_
    replace he := b_some he
    obtain ⟨V3, h3, he⟩ := he
    refine kVV C hd hl.1 kw_X4_190 (by decide) cM0 rfl (c_X4_begins l G hJ h3) ⟨Nat.le_of_ble_eq_true rfl, Nat.le_of_ble_eq_true rfl⟩ rfl (rest := []) rfl (Nat.le_of_ble_eq_true rfl) dX4_kind_18 (fun H locs hd => ?_)
    refine lv_aload_n hx hb dX4_kind_21 rfl (lv_at hl 0 rfl) ?_
    replace he := b_some he
    obtain ⟨V4, h4, he⟩ := he
    refine kVV C hd hl.1 kw_X4_164 (by decide) cM0 rfl (c_X4_laysAside l G hJ h4) ⟨Nat.le_of_ble_eq_true rfl, Nat.le_of_ble_eq_true rfl⟩ rfl (rest := []) rfl (Nat.le_of_ble_eq_true rfl) dX4_kind_22 (fun H locs hd => ?_)
    refine lv_iconst (v := 0) hx hb dX4_kind_25 (by decide) ?_
    refine lv_istore_n (lv' := [(2, .int _), (0, .ref _), (1, .int _)]) hx hb dX4_kind_26 rfl hl (by decide) rfl (fun ls hl => ?_)
    exact L27 200 _ _ _ _ _ _ (lv_sub hl [1, 2, 0] rfl) hd he
  · replace he := i_t hc2 he
    refine lv_aload_n hx hb dX4_kind_8 rfl (lv_at hl 0 rfl) ?_
    refine lv_ldc hx hb hown (hts _ tw768) dX4_kind_9 ?_
    replace he := b_some he
    obtain ⟨⟨r13, V13⟩, h13, he⟩ := he
    refine kVI C hd hl.1 kw_X4_66 (by decide) cM0 rfl (c_X4_finds l G hJ h13) ⟨Nat.le_of_ble_eq_true rfl, Nat.le_of_ble_eq_true rfl⟩ rfl (rest := []) rfl (Nat.le_of_ble_eq_true rfl) dX4_kind_11 (fun H locs hd => ?_)
    exact retIe (cf := (cM G)) C hr hlk hd he dX4_kind_14
set_option maxRecDepth 100000 in
set_option maxHeartbeats 4000000 in
theorem c_X4_hour (l : Launch) (G : Gd) (hJ : Inj 11 G.2.2) {a1 : Int32} {a2 : Int32} {V V' : VV} {r : Int32} (he : f_X4_hour a1 a2 V = some (r, V')) : MI l 11 G XM yX4_hour cX4_hour 4 7 158 [.ref (G.2.2 0), .int a1, .int a2] (cM G V) (cM G V') r := by
  refine walk_of (own := RX4) (by decide) rfl hJ (xs_M G) (Nat.le_of_ble_eq_true rfl) ?_
  intro p e s m below meth c C hr hlk ls hl hd
  have hl : lv_has ls 4 [(0, .ref (G.2.2 0)), (1, .int a1), (2, .int a2)] := hl
  obtain ⟨⟨hx, hb, hml, hown, hts⟩, -⟩ := id C
  have L28 : ∀ (fuel : Nat) (x1 : Int32) (x2 : Int32) (x3 : Int32) (V : VV) (H : Heap) (locs : List Loc) (ls : Array Slot), lv_has ls 4 [(0, .ref (G.2.2 0)), (1, .int x1), (2, .int x2), (3, .int x3)] → Dy 11 G (cM G V) s H locs → f_X4_hour_L28 fuel x1 x2 x3 V = some (r, V') → W p l e (rmF 7 158) s m ([.ref (G.2.2 0), .int a1, .int a2] : List Value).toArray below meth c H locs 0 0 (MQ below (QI 11 G (cM G V') (fun r' => r' = r)) ([.ref (G.2.2 0), .int a1, .int a2] : List Value).toArray s 0 0 (inA 11 G.2.2)) (F0 m 28 ls []) := by
    intro fuel
    induction fuel with
    | zero => intro x1 x2 x3 V H locs ls hl hd he; simp [f_X4_hour_L28] at he
    | succ n ih28 =>
      intro x1 x2 x3 V H locs ls hl hd he
      rw [f_X4_hour_L28] at he
      refine lv_iload_n hx hb dX4_hour_28 rfl (lv_at hl 3 rfl) ?_
      refine lv_bipush (v := 24) hx hb dX4_hour_29 (by decide) ?_
      refine lv_icmp_ge (tgt := 67) hx hb dX4_hour_31 (by decide) (fun hc5 => ?_) (fun hc5 => ?_)
      · replace he := i_t hc5 he
        refine lv_aload_n hx hb dX4_hour_67 rfl (lv_at hl 0 rfl) ?_
        replace he := b_some he
        obtain ⟨⟨r6, V6⟩, h6, he⟩ := he
        refine kVI C hd hl.1 kw_X4_196 (by decide) cM0 rfl (c_X4_bestOrNone l G hJ h6) ⟨Nat.le_of_ble_eq_true rfl, Nat.le_of_ble_eq_true rfl⟩ rfl (rest := []) rfl (Nat.le_of_ble_eq_true rfl) dX4_hour_68 (fun H locs hd => ?_)
        exact retIe (cf := (cM G)) C hr hlk hd he dX4_hour_71
      · replace he := i_f hc5 he
        refine lv_aload_n hx hb dX4_hour_34 rfl (lv_at hl 0 rfl) ?_
        refine rgetf C hd (by decide) cM0 rfl tgX4 0 (by decide) tw701 rfl dX4_hour_35 ?_
        refine lv_iconst (v := 2) hx hb dX4_hour_38 (by decide) ?_
        refine lv_iconst (v := 1) hx hb dX4_hour_39 (by decide) ?_
        refine lv_iload_n hx hb dX4_hour_40 rfl (lv_at hl 3 rfl) ?_
        refine lv_ishl hx hb dX4_hour_41 ?_
        replace he := g_some he
        obtain ⟨hi7, he⟩ := he
        replace he := bv_ex he
        obtain ⟨V8, e8, he⟩ := he
        refine riast (cell' := (cM G) V8) C hd (by decide) cMa1 hi7 (cMaw1 e8) (cM_ne e8) dX4_hour_42 (fun H locs hd => ?_)
        refine lv_aload_n hx hb dX4_hour_43 rfl (lv_at hl 0 rfl) ?_
        refine lv_iload_n hx hb dX4_hour_44 rfl (lv_at hl 3 rfl) ?_
        refine lv_aload_n hx hb dX4_hour_45 rfl (lv_at hl 0 rfl) ?_
        refine lv_aload_n hx hb dX4_hour_46 rfl (lv_at hl 0 rfl) ?_
        refine lv_iconst (v := 0) hx hb dX4_hour_47 (by decide) ?_
        refine lv_iload_n hx hb dX4_hour_48 rfl (lv_at hl 1 rfl) ?_
        refine lv_iload_n hx hb dX4_hour_49 rfl (lv_at hl 2 rfl) ?_
        refine lv_bipush (v := 60) hx hb dX4_hour_50 (by decide) ?_
        replace he := b_some he
        obtain ⟨⟨r9, V9⟩, h9, he⟩ := he
        refine kVI C hd hl.1 kw_X4_174 (by decide) cM0 rfl (c_X4_firstSo l G hJ h9) ⟨Nat.le_of_ble_eq_true rfl, Nat.le_of_ble_eq_true rfl⟩ rfl (rest := [.ref _, .int _, .ref _]) rfl (Nat.le_of_ble_eq_true rfl) dX4_hour_52 (fun H locs hd => ?_)
        replace he := b_some he
        obtain ⟨⟨r10, V10⟩, h10, he⟩ := he
        refine kVI C hd hl.1 kw_X4_167 (by decide) cM0 rfl (c_X4_takesBack l G hJ h10) ⟨Nat.le_of_ble_eq_true rfl, Nat.le_of_ble_eq_true rfl⟩ rfl (rest := [.int _, .ref _]) rfl (Nat.le_of_ble_eq_true rfl) dX4_hour_55 (fun H locs hd => ?_)
        replace he := b_some he
        obtain ⟨V11, h11, he⟩ := he
        refine kVV C hd hl.1 kw_X4_193 (by decide) cM0 rfl (c_X4_tries l G hJ h11) ⟨Nat.le_of_ble_eq_true rfl, Nat.le_of_ble_eq_true rfl⟩ rfl (rest := []) rfl (Nat.le_of_ble_eq_true rfl) dX4_hour_58 (fun H locs hd => ?_)
        refine lv_iinc (v := _ + 1) (lv' := [(3, .int _), (0, .ref _), (1, .int _), (2, .int _)]) hx hb dX4_hour_61 hl (k := 3) rfl rfl (by decide) rfl (fun ls hl => ?_)
        refine lv_goto (tgt := 28) hx hb dX4_hour_64 (by decide) ?_
        exact ih28 _ _ _ _ _ _ _ (lv_sub hl [1, 2, 3, 0] rfl) hd he
  unfold f_X4_hour at he
  refine lv_aload_n hx hb dX4_hour_0 rfl (lv_at hl 0 rfl) ?_
  refine lv_iload_n hx hb dX4_hour_1 rfl (lv_at hl 1 rfl) ?_
  refine lv_iload_n hx hb dX4_hour_2 rfl (lv_at hl 2 rfl) ?_
  replace he := b_some he
  obtain ⟨⟨r1, V1⟩, h1, he⟩ := he
  refine kVZ C hd hl.1 kw_X4_118 (by decide) cM0 rfl (c_X4_areTwo l G hJ h1) ⟨Nat.le_of_ble_eq_true rfl, Nat.le_of_ble_eq_true rfl⟩ rfl (rest := []) rfl (Nat.le_of_ble_eq_true rfl) dX4_hour_3 (fun H locs hz1 hd => ?_)
  refine lv_if_ne (tgt := 16) hx hb dX4_hour_6 (by decide) (fun hc2 => ?_) (fun hc2 => ?_)
  · replace he := i_f hc2 he
    refine lv_aload_n hx hb dX4_hour_16 rfl (lv_at hl 0 rfl) ?_
    refine lv_bipush (v := 60) hx hb dX4_hour_17 (by decide) ?_
    replace he := b_some he
    obtain ⟨V3, h3, he⟩ := he
    refine kVV C hd hl.1 kw_X4_190 (by decide) cM0 rfl (c_X4_begins l G hJ h3) ⟨Nat.le_of_ble_eq_true rfl, Nat.le_of_ble_eq_true rfl⟩ rfl (rest := []) rfl (Nat.le_of_ble_eq_true rfl) dX4_hour_19 (fun H locs hd => ?_)
    refine lv_aload_n hx hb dX4_hour_22 rfl (lv_at hl 0 rfl) ?_
    replace he := b_some he
    obtain ⟨V4, h4, he⟩ := he
    refine kVV C hd hl.1 kw_X4_164 (by decide) cM0 rfl (c_X4_laysAside l G hJ h4) ⟨Nat.le_of_ble_eq_true rfl, Nat.le_of_ble_eq_true rfl⟩ rfl (rest := []) rfl (Nat.le_of_ble_eq_true rfl) dX4_hour_23 (fun H locs hd => ?_)
    refine lv_iconst (v := 0) hx hb dX4_hour_26 (by decide) ?_
    refine lv_istore_n (lv' := [(3, .int _), (0, .ref _), (1, .int _), (2, .int _)]) hx hb dX4_hour_27 rfl hl (by decide) rfl (fun ls hl => ?_)
    exact L28 200 _ _ _ _ _ _ _ (lv_sub hl [1, 2, 3, 0] rfl) hd he
  · replace he := i_t hc2 he
    refine lv_aload_n hx hb dX4_hour_9 rfl (lv_at hl 0 rfl) ?_
    refine lv_ldc hx hb hown (hts _ tw768) dX4_hour_10 ?_
    replace he := b_some he
    obtain ⟨⟨r12, V12⟩, h12, he⟩ := he
    refine kVI C hd hl.1 kw_X4_66 (by decide) cM0 rfl (c_X4_finds l G hJ h12) ⟨Nat.le_of_ble_eq_true rfl, Nat.le_of_ble_eq_true rfl⟩ rfl (rest := []) rfl (Nat.le_of_ble_eq_true rfl) dX4_hour_12 (fun H locs hd => ?_)
    exact retIe (cf := (cM G)) C hr hlk hd he dX4_hour_15
set_option maxRecDepth 100000 in
set_option maxHeartbeats 4000000 in
theorem c_X4_hope (l : Launch) (G : Gd) (hJ : Inj 11 G.2.2) {a1 : Int32} {a2 : Int32} {V V' : VV} {r : Int32} (he : f_X4_hope a1 a2 V = some (r, V')) : MI l 11 G XM yX4_hope cX4_hope 7 7 155 [.ref (G.2.2 0), .int a1, .int a2] (cM G V) (cM G V') r := by
  refine walk_of (own := RX4) (by decide) rfl hJ (xs_M G) (Nat.le_of_ble_eq_true rfl) ?_
  intro p e s m below meth c C hr hlk ls hl hd
  have hl : lv_has ls 7 [(0, .ref (G.2.2 0)), (1, .int a1), (2, .int a2)] := hl
  obtain ⟨⟨hx, hb, hml, hown, hts⟩, -⟩ := id C
  have L39 : ∀ (fuel : Nat) (x1 : Int32) (x2 : Int32) (x3 : Int32) (x4 : Int32) (x5 : Int32) (V : VV) (H : Heap) (locs : List Loc) (ls : Array Slot), lv_has ls 7 [(0, .ref (G.2.2 0)), (1, .int x1), (2, .int x2), (3, .int x3), (4, .int x4), (5, .int x5)] → Dy 11 G (cM G V) s H locs → f_X4_hope_L39 fuel x1 x2 x3 x4 x5 V = some (r, V') → W p l e (rmF 7 155) s m ([.ref (G.2.2 0), .int a1, .int a2] : List Value).toArray below meth c H locs 0 0 (MQ below (QI 11 G (cM G V') (fun r' => r' = r)) ([.ref (G.2.2 0), .int a1, .int a2] : List Value).toArray s 0 0 (inA 11 G.2.2)) (F0 m 39 ls []) := by
    intro fuel
    induction fuel with
    | zero => intro x1 x2 x3 x4 x5 V H locs ls hl hd he; simp [f_X4_hope_L39] at he
    | succ n ih39 =>
      intro x1 x2 x3 x4 x5 V H locs ls hl hd he
      rw [f_X4_hope_L39] at he
      refine lv_iload hx hb dX4_hope_39 (lv_at hl 5 rfl) ?_
      refine lv_bipush (v := 16) hx hb dX4_hope_41 (by decide) ?_
      refine lv_icmp_ge (tgt := 110) hx hb dX4_hope_43 (by decide) (fun hc7 => ?_) (fun hc7 => ?_)
      · replace he := i_t hc7 he
        refine lv_iload hx hb dX4_hope_110 (lv_at hl 4 rfl) ?_
        exact retIe (cf := (cM G)) C hr hlk hd he dX4_hope_112
      · replace he := i_f hc7 he
        refine lv_aload_n hx hb dX4_hope_46 rfl (lv_at hl 0 rfl) ?_
        refine rgetf C hd (by decide) cM0 rfl tgX4 0 (by decide) tw701 rfl dX4_hope_47 ?_
        refine lv_iload_n hx hb dX4_hope_50 rfl (lv_at hl 1 rfl) ?_
        refine lv_iconst (v := 4) hx hb dX4_hope_51 (by decide) ?_
        replace he := b_some he
        obtain ⟨⟨r8, V8⟩, h8, he⟩ := he
        refine kSI C hd hl.1 kw_X4_54 (c_X4_spotOf l G hJ h8) ⟨Nat.le_of_ble_eq_true rfl, Nat.le_of_ble_eq_true rfl⟩ rfl (rest := [.ref _]) rfl (Nat.le_of_ble_eq_true rfl) dX4_hope_52 (fun H locs hd => ?_)
        refine lv_iload hx hb dX4_hope_55 (lv_at hl 5 rfl) ?_
        replace he := g_some he
        obtain ⟨hi9, he⟩ := he
        replace he := bv_ex he
        obtain ⟨V10, e10, he⟩ := he
        refine riast (cell' := (cM G) V10) C hd (by decide) cMa1 hi9 (cMaw1 e10) (cM_ne e10) dX4_hope_57 (fun H locs hd => ?_)
        refine lv_aload_n hx hb dX4_hope_58 rfl (lv_at hl 0 rfl) ?_
        refine lv_iload_n hx hb dX4_hope_59 rfl (lv_at hl 2 rfl) ?_
        replace he := b_some he
        obtain ⟨V11, h11, he⟩ := he
        refine kVV C hd hl.1 kw_X4_153 (by decide) cM0 rfl (c_X4_hoursGo l G hJ h11) ⟨Nat.le_of_ble_eq_true rfl, Nat.le_of_ble_eq_true rfl⟩ rfl (rest := []) rfl (Nat.le_of_ble_eq_true rfl) dX4_hope_60 (fun H locs hd => ?_)
        refine lv_aload_n hx hb dX4_hope_63 rfl (lv_at hl 0 rfl) ?_
        refine lv_aload_n hx hb dX4_hope_64 rfl (lv_at hl 0 rfl) ?_
        replace he := b_some he
        obtain ⟨⟨r12, V12⟩, h12, he⟩ := he
        refine kVI C hd hl.1 kw_X4_159 (by decide) cM0 rfl (c_X4_thoseGlad l G hJ h12) ⟨Nat.le_of_ble_eq_true rfl, Nat.le_of_ble_eq_true rfl⟩ rfl (rest := [.ref _]) rfl (Nat.le_of_ble_eq_true rfl) dX4_hope_65 (fun H locs hd => ?_)
        replace he := b_some he
        obtain ⟨⟨r13, V13⟩, h13, he⟩ := he
        refine kSI C hd hl.1 kw_X4_128 (c_X4_ones l G hJ h13) ⟨Nat.le_of_ble_eq_true rfl, Nat.le_of_ble_eq_true rfl⟩ rfl (rest := [.ref _]) rfl (Nat.le_of_ble_eq_true rfl) dX4_hope_68 (fun H locs hd => ?_)
        replace he := b_some he
        obtain ⟨⟨r14, V14⟩, h14, he⟩ := he
        refine kVI C hd hl.1 kw_X4_167 (by decide) cM0 rfl (c_X4_takesBack l G hJ h14) ⟨Nat.le_of_ble_eq_true rfl, Nat.le_of_ble_eq_true rfl⟩ rfl (rest := []) rfl (Nat.le_of_ble_eq_true rfl) dX4_hope_71 (fun H locs hd => ?_)
        refine lv_istore (lv' := [(6, .int _), (0, .ref _), (1, .int _), (2, .int _), (3, .int _), (4, .int _), (5, .int _)]) hx hb dX4_hope_74 hl (by decide) rfl (fun ls hl => ?_)
        refine lv_iload hx hb dX4_hope_76 (lv_at hl 0 rfl) ?_
        refine lv_iload_n hx hb dX4_hope_78 rfl (lv_at hl 4 rfl) ?_
        refine lv_icmp_le (tgt := 87) hx hb dX4_hope_79 (by decide) (fun hc15 => ?_) (fun hc15 => ?_)
        · replace he := i_t hc15 he
          refine lv_iload hx hb dX4_hope_87 (lv_at hl 5 rfl) ?_
          refine lv_istore (lv' := [(4, .int _), (6, .int _), (0, .ref _), (1, .int _), (2, .int _), (3, .int _), (5, .int _)]) hx hb dX4_hope_89 hl (by decide) rfl (fun ls hl => ?_)
          refine lv_iload hx hb dX4_hope_91 (lv_at hl 1 rfl) ?_
          refine lv_iload_n hx hb dX4_hope_93 rfl (lv_at hl 5 rfl) ?_
          refine lv_icmp_le (tgt := 102) hx hb dX4_hope_94 (by decide) (fun hc16 => ?_) (fun hc16 => ?_)
          · replace he := i_t hc16 he
            refine lv_iload_n hx hb dX4_hope_102 rfl (lv_at hl 5 rfl) ?_
            refine lv_istore_n (lv' := [(3, .int _), (4, .int _), (6, .int _), (0, .ref _), (1, .int _), (2, .int _), (5, .int _)]) hx hb dX4_hope_103 rfl hl (by decide) rfl (fun ls hl => ?_)
            refine lv_iinc (v := _ + 1) (lv' := [(5, .int _), (3, .int _), (4, .int _), (6, .int _), (0, .ref _), (1, .int _), (2, .int _)]) hx hb dX4_hope_104 hl (k := 6) rfl rfl (by decide) rfl (fun ls hl => ?_)
            refine lv_goto (tgt := 39) hx hb dX4_hope_107 (by decide) ?_
            exact ih39 _ _ _ _ _ _ _ _ _ (lv_sub hl [4, 5, 6, 1, 2, 0] rfl) hd he
          · replace he := i_f hc16 he
            refine lv_iload hx hb dX4_hope_97 (lv_at hl 1 rfl) ?_
            refine lv_goto (tgt := 103) hx hb dX4_hope_99 (by decide) ?_
            refine lv_istore_n (lv' := [(3, .int _), (4, .int _), (6, .int _), (0, .ref _), (1, .int _), (2, .int _), (5, .int _)]) hx hb dX4_hope_103 rfl hl (by decide) rfl (fun ls hl => ?_)
            refine lv_iinc (v := _ + 1) (lv' := [(5, .int _), (3, .int _), (4, .int _), (6, .int _), (0, .ref _), (1, .int _), (2, .int _)]) hx hb dX4_hope_104 hl (k := 6) rfl rfl (by decide) rfl (fun ls hl => ?_)
            refine lv_goto (tgt := 39) hx hb dX4_hope_107 (by decide) ?_
            exact ih39 _ _ _ _ _ _ _ _ _ (lv_sub hl [4, 5, 6, 1, 2, 0] rfl) hd he
        · replace he := i_f hc15 he
          refine lv_iload hx hb dX4_hope_82 (lv_at hl 6 rfl) ?_
          refine lv_goto (tgt := 89) hx hb dX4_hope_84 (by decide) ?_
          refine lv_istore (lv' := [(4, .int _), (6, .int _), (0, .ref _), (1, .int _), (2, .int _), (3, .int _), (5, .int _)]) hx hb dX4_hope_89 hl (by decide) rfl (fun ls hl => ?_)
          refine lv_iload hx hb dX4_hope_91 (lv_at hl 1 rfl) ?_
          refine lv_iload_n hx hb dX4_hope_93 rfl (lv_at hl 5 rfl) ?_
          refine lv_icmp_le (tgt := 102) hx hb dX4_hope_94 (by decide) (fun hc17 => ?_) (fun hc17 => ?_)
          · replace he := i_t hc17 he
            refine lv_iload_n hx hb dX4_hope_102 rfl (lv_at hl 5 rfl) ?_
            refine lv_istore_n (lv' := [(3, .int _), (4, .int _), (6, .int _), (0, .ref _), (1, .int _), (2, .int _), (5, .int _)]) hx hb dX4_hope_103 rfl hl (by decide) rfl (fun ls hl => ?_)
            refine lv_iinc (v := _ + 1) (lv' := [(5, .int _), (3, .int _), (4, .int _), (6, .int _), (0, .ref _), (1, .int _), (2, .int _)]) hx hb dX4_hope_104 hl (k := 6) rfl rfl (by decide) rfl (fun ls hl => ?_)
            refine lv_goto (tgt := 39) hx hb dX4_hope_107 (by decide) ?_
            exact ih39 _ _ _ _ _ _ _ _ _ (lv_sub hl [4, 5, 6, 1, 2, 0] rfl) hd he
          · replace he := i_f hc17 he
            refine lv_iload hx hb dX4_hope_97 (lv_at hl 1 rfl) ?_
            refine lv_goto (tgt := 103) hx hb dX4_hope_99 (by decide) ?_
            refine lv_istore_n (lv' := [(3, .int _), (4, .int _), (6, .int _), (0, .ref _), (1, .int _), (2, .int _), (5, .int _)]) hx hb dX4_hope_103 rfl hl (by decide) rfl (fun ls hl => ?_)
            refine lv_iinc (v := _ + 1) (lv' := [(5, .int _), (3, .int _), (4, .int _), (6, .int _), (0, .ref _), (1, .int _), (2, .int _)]) hx hb dX4_hope_104 hl (k := 6) rfl rfl (by decide) rfl (fun ls hl => ?_)
            refine lv_goto (tgt := 39) hx hb dX4_hope_107 (by decide) ?_
            exact ih39 _ _ _ _ _ _ _ _ _ (lv_sub hl [4, 5, 6, 1, 2, 0] rfl) hd he
  unfold f_X4_hope at he
  refine lv_aload_n hx hb dX4_hope_0 rfl (lv_at hl 0 rfl) ?_
  refine lv_iload_n hx hb dX4_hope_1 rfl (lv_at hl 1 rfl) ?_
  replace he := b_some he
  obtain ⟨⟨r1, V1⟩, h1, he⟩ := he
  refine kVZ C hd hl.1 kw_X4_48 (by decide) cM0 rfl (c_X4_isWalker l G hJ h1) ⟨Nat.le_of_ble_eq_true rfl, Nat.le_of_ble_eq_true rfl⟩ rfl (rest := []) rfl (Nat.le_of_ble_eq_true rfl) dX4_hope_2 (fun H locs hz1 hd => ?_)
  refine lv_if_eq (tgt := 20) hx hb dX4_hope_5 (by decide) (fun hc2 => ?_) (fun hc2 => ?_)
  · replace he := i_t hc2 he
    refine lv_aload_n hx hb dX4_hope_20 rfl (lv_at hl 0 rfl) ?_
    refine lv_ldc hx hb hown (hts _ tw768) dX4_hope_21 ?_
    replace he := b_some he
    obtain ⟨⟨r3, V3⟩, h3, he⟩ := he
    refine kVI C hd hl.1 kw_X4_66 (by decide) cM0 rfl (c_X4_finds l G hJ h3) ⟨Nat.le_of_ble_eq_true rfl, Nat.le_of_ble_eq_true rfl⟩ rfl (rest := []) rfl (Nat.le_of_ble_eq_true rfl) dX4_hope_23 (fun H locs hd => ?_)
    exact retIe (cf := (cM G)) C hr hlk hd he dX4_hope_26
  · replace he := i_f hc2 he
    refine lv_iload_n hx hb dX4_hope_8 rfl (lv_at hl 2 rfl) ?_
    refine lv_i2l hx hb dX4_hope_9 rfl ?_
    refine lv_lconst (v := 0) hx hb dX4_hope_10 (by decide) ?_
    refine lv_ldc2 hx hb hown (hts _ tw891) dX4_hope_11 ?_
    replace he := b_some he
    obtain ⟨⟨r4, V4⟩, h4, he⟩ := he
    refine kSZ C hd hl.1 kw_X4_44 (c_X4_in l G hJ h4) ⟨Nat.le_of_ble_eq_true rfl, Nat.le_of_ble_eq_true rfl⟩ rfl (rest := []) rfl (Nat.le_of_ble_eq_true rfl) dX4_hope_14 (fun H locs hz4 hd => ?_)
    refine lv_if_ne (tgt := 27) hx hb dX4_hope_17 (by decide) (fun hc5 => ?_) (fun hc5 => ?_)
    · replace he := i_f hc5 he
      refine lv_iconst (v := (-1)) hx hb dX4_hope_27 (by decide) ?_
      refine lv_istore_n (lv' := [(3, .int _), (0, .ref _), (1, .int _), (2, .int _)]) hx hb dX4_hope_28 rfl hl (by decide) rfl (fun ls hl => ?_)
      refine lv_iconst (v := 0) hx hb dX4_hope_29 (by decide) ?_
      refine lv_istore (lv' := [(4, .int _), (3, .int _), (0, .ref _), (1, .int _), (2, .int _)]) hx hb dX4_hope_30 hl (by decide) rfl (fun ls hl => ?_)
      refine lv_aload_n hx hb dX4_hope_32 rfl (lv_at hl 2 rfl) ?_
      replace he := b_some he
      obtain ⟨V6, h6, he⟩ := he
      refine kVV C hd hl.1 kw_X4_164 (by decide) cM0 rfl (c_X4_laysAside l G hJ h6) ⟨Nat.le_of_ble_eq_true rfl, Nat.le_of_ble_eq_true rfl⟩ rfl (rest := []) rfl (Nat.le_of_ble_eq_true rfl) dX4_hope_33 (fun H locs hd => ?_)
      refine lv_iconst (v := 0) hx hb dX4_hope_36 (by decide) ?_
      refine lv_istore (lv' := [(5, .int _), (4, .int _), (3, .int _), (0, .ref _), (1, .int _), (2, .int _)]) hx hb dX4_hope_37 hl (by decide) rfl (fun ls hl => ?_)
      exact L39 200 _ _ _ _ _ _ _ _ _ (lv_sub hl [3, 4, 5, 2, 1, 0] rfl) hd he
    · replace he := i_t hc5 he
      refine lv_aload_n hx hb dX4_hope_20 rfl (lv_at hl 0 rfl) ?_
      refine lv_ldc hx hb hown (hts _ tw768) dX4_hope_21 ?_
      replace he := b_some he
      obtain ⟨⟨r18, V18⟩, h18, he⟩ := he
      refine kVI C hd hl.1 kw_X4_66 (by decide) cM0 rfl (c_X4_finds l G hJ h18) ⟨Nat.le_of_ble_eq_true rfl, Nat.le_of_ble_eq_true rfl⟩ rfl (rest := []) rfl (Nat.le_of_ble_eq_true rfl) dX4_hope_23 (fun H locs hd => ?_)
      exact retIe (cf := (cM G)) C hr hlk hd he dX4_hope_26
set_option maxRecDepth 100000 in
set_option maxHeartbeats 4000000 in
theorem c_X4_more (l : Launch) (G : Gd) (hJ : Inj 11 G.2.2) {a1 : Int32} {V V' : VV} {r : Int32} (he : f_X4_more a1 V = some (r, V')) : MI l 11 G XM yX4_more cX4_more 6 7 155 [.ref (G.2.2 0), .int a1] (cM G V) (cM G V') r := by
  refine walk_of (own := RX4) (by decide) rfl hJ (xs_M G) (Nat.le_of_ble_eq_true rfl) ?_
  intro p e s m below meth c C hr hlk ls hl hd
  have hl : lv_has ls 6 [(0, .ref (G.2.2 0)), (1, .int a1)] := hl
  obtain ⟨⟨hx, hb, hml, hown, hts⟩, -⟩ := id C
  have L30 : ∀ (fuel : Nat) (x1 : Int32) (x2 : Int32) (x3 : Int32) (x4 : Int32) (V : VV) (H : Heap) (locs : List Loc) (ls : Array Slot), lv_has ls 6 [(0, .ref (G.2.2 0)), (1, .int x1), (2, .int x2), (3, .int x3), (4, .int x4)] → Dy 11 G (cM G V) s H locs → f_X4_more_L30 fuel x1 x2 x3 x4 V = some (r, V') → W p l e (rmF 7 155) s m ([.ref (G.2.2 0), .int a1] : List Value).toArray below meth c H locs 0 0 (MQ below (QI 11 G (cM G V') (fun r' => r' = r)) ([.ref (G.2.2 0), .int a1] : List Value).toArray s 0 0 (inA 11 G.2.2)) (F0 m 30 ls []) := by
    intro fuel
    induction fuel with
    | zero => intro x1 x2 x3 x4 V H locs ls hl hd he; simp [f_X4_more_L30] at he
    | succ n ih30 =>
      intro x1 x2 x3 x4 V H locs ls hl hd he
      rw [f_X4_more_L30] at he
      refine lv_iload hx hb dX4_more_30 (lv_at hl 4 rfl) ?_
      refine lv_bipush (v := 24) hx hb dX4_more_32 (by decide) ?_
      refine lv_icmp_ge (tgt := 100) hx hb dX4_more_34 (by decide) (fun hc4 => ?_) (fun hc4 => ?_)
      · replace he := i_t hc4 he
        refine lv_iload_n hx hb dX4_more_100 rfl (lv_at hl 3 rfl) ?_
        exact retIe (cf := (cM G)) C hr hlk hd he dX4_more_101
      · replace he := i_f hc4 he
        refine lv_aload_n hx hb dX4_more_37 rfl (lv_at hl 0 rfl) ?_
        refine rgetf C hd (by decide) cM0 rfl tgX4 0 (by decide) tw701 rfl dX4_more_38 ?_
        refine lv_iconst (v := 2) hx hb dX4_more_41 (by decide) ?_
        refine lv_dup2_11 hx hb dX4_more_42 rfl rfl ?_
        replace he := g_some he
        obtain ⟨hi5, he⟩ := he
        refine riald C hd (by decide) cMa1 hi5 dX4_more_43 ?_
        refine lv_iconst (v := 1) hx hb dX4_more_44 (by decide) ?_
        refine lv_iload hx hb dX4_more_45 (lv_at hl 4 rfl) ?_
        refine lv_ishl hx hb dX4_more_47 ?_
        refine lv_ior hx hb dX4_more_48 ?_
        replace he := g_some he
        obtain ⟨hi6, he⟩ := he
        replace he := bv_ex he
        obtain ⟨V7, e7, he⟩ := he
        refine riast (cell' := (cM G) V7) C hd (by decide) cMa1 hi6 (cMaw1 e7) (cM_ne e7) dX4_more_49 (fun H locs hd => ?_)
        refine lv_aload_n hx hb dX4_more_50 rfl (lv_at hl 0 rfl) ?_
        refine lv_iload_n hx hb dX4_more_51 rfl (lv_at hl 1 rfl) ?_
        replace he := b_some he
        obtain ⟨V8, h8, he⟩ := he
        refine kVV C hd hl.1 kw_X4_153 (by decide) cM0 rfl (c_X4_hoursGo l G hJ h8) ⟨Nat.le_of_ble_eq_true rfl, Nat.le_of_ble_eq_true rfl⟩ rfl (rest := []) rfl (Nat.le_of_ble_eq_true rfl) dX4_more_52 (fun H locs hd => ?_)
        refine lv_aload_n hx hb dX4_more_55 rfl (lv_at hl 0 rfl) ?_
        refine lv_aload_n hx hb dX4_more_56 rfl (lv_at hl 0 rfl) ?_
        replace he := b_some he
        obtain ⟨⟨r9, V9⟩, h9, he⟩ := he
        refine kVI C hd hl.1 kw_X4_124 (by decide) cM0 rfl (c_X4_thoseKept l G hJ h9) ⟨Nat.le_of_ble_eq_true rfl, Nat.le_of_ble_eq_true rfl⟩ rfl (rest := [.ref _]) rfl (Nat.le_of_ble_eq_true rfl) dX4_more_57 (fun H locs hd => ?_)
        replace he := b_some he
        obtain ⟨⟨r10, V10⟩, h10, he⟩ := he
        refine kSI C hd hl.1 kw_X4_128 (c_X4_ones l G hJ h10) ⟨Nat.le_of_ble_eq_true rfl, Nat.le_of_ble_eq_true rfl⟩ rfl (rest := [.ref _]) rfl (Nat.le_of_ble_eq_true rfl) dX4_more_60 (fun H locs hd => ?_)
        replace he := b_some he
        obtain ⟨⟨r11, V11⟩, h11, he⟩ := he
        refine kVI C hd hl.1 kw_X4_167 (by decide) cM0 rfl (c_X4_takesBack l G hJ h11) ⟨Nat.le_of_ble_eq_true rfl, Nat.le_of_ble_eq_true rfl⟩ rfl (rest := []) rfl (Nat.le_of_ble_eq_true rfl) dX4_more_63 (fun H locs hd => ?_)
        refine lv_istore (lv' := [(5, .int _), (0, .ref _), (1, .int _), (2, .int _), (3, .int _), (4, .int _)]) hx hb dX4_more_66 hl (by decide) rfl (fun ls hl => ?_)
        refine lv_iload hx hb dX4_more_68 (lv_at hl 0 rfl) ?_
        refine lv_iload_n hx hb dX4_more_70 rfl (lv_at hl 3 rfl) ?_
        refine lv_icmp_le (tgt := 79) hx hb dX4_more_71 (by decide) (fun hc12 => ?_) (fun hc12 => ?_)
        · replace he := i_t hc12 he
          refine lv_iload_n hx hb dX4_more_79 rfl (lv_at hl 4 rfl) ?_
          refine lv_istore_n (lv' := [(3, .int _), (5, .int _), (0, .ref _), (1, .int _), (2, .int _), (4, .int _)]) hx hb dX4_more_80 rfl hl (by decide) rfl (fun ls hl => ?_)
          refine lv_iload hx hb dX4_more_81 (lv_at hl 1 rfl) ?_
          refine lv_iload_n hx hb dX4_more_83 rfl (lv_at hl 4 rfl) ?_
          refine lv_icmp_le (tgt := 92) hx hb dX4_more_84 (by decide) (fun hc13 => ?_) (fun hc13 => ?_)
          · replace he := i_t hc13 he
            refine lv_iload_n hx hb dX4_more_92 rfl (lv_at hl 4 rfl) ?_
            refine lv_istore_n (lv' := [(2, .int _), (3, .int _), (5, .int _), (0, .ref _), (1, .int _), (4, .int _)]) hx hb dX4_more_93 rfl hl (by decide) rfl (fun ls hl => ?_)
            refine lv_iinc (v := _ + 1) (lv' := [(4, .int _), (2, .int _), (3, .int _), (5, .int _), (0, .ref _), (1, .int _)]) hx hb dX4_more_94 hl (k := 5) rfl rfl (by decide) rfl (fun ls hl => ?_)
            refine lv_goto (tgt := 30) hx hb dX4_more_97 (by decide) ?_
            exact ih30 _ _ _ _ _ _ _ _ (lv_sub hl [4, 5, 1, 2, 0] rfl) hd he
          · replace he := i_f hc13 he
            refine lv_iload hx hb dX4_more_87 (lv_at hl 1 rfl) ?_
            refine lv_goto (tgt := 93) hx hb dX4_more_89 (by decide) ?_
            refine lv_istore_n (lv' := [(2, .int _), (3, .int _), (5, .int _), (0, .ref _), (1, .int _), (4, .int _)]) hx hb dX4_more_93 rfl hl (by decide) rfl (fun ls hl => ?_)
            refine lv_iinc (v := _ + 1) (lv' := [(4, .int _), (2, .int _), (3, .int _), (5, .int _), (0, .ref _), (1, .int _)]) hx hb dX4_more_94 hl (k := 5) rfl rfl (by decide) rfl (fun ls hl => ?_)
            refine lv_goto (tgt := 30) hx hb dX4_more_97 (by decide) ?_
            exact ih30 _ _ _ _ _ _ _ _ (lv_sub hl [4, 5, 1, 2, 0] rfl) hd he
        · replace he := i_f hc12 he
          refine lv_iload hx hb dX4_more_74 (lv_at hl 5 rfl) ?_
          refine lv_goto (tgt := 80) hx hb dX4_more_76 (by decide) ?_
          refine lv_istore_n (lv' := [(3, .int _), (5, .int _), (0, .ref _), (1, .int _), (2, .int _), (4, .int _)]) hx hb dX4_more_80 rfl hl (by decide) rfl (fun ls hl => ?_)
          refine lv_iload hx hb dX4_more_81 (lv_at hl 1 rfl) ?_
          refine lv_iload_n hx hb dX4_more_83 rfl (lv_at hl 4 rfl) ?_
          refine lv_icmp_le (tgt := 92) hx hb dX4_more_84 (by decide) (fun hc14 => ?_) (fun hc14 => ?_)
          · replace he := i_t hc14 he
            refine lv_iload_n hx hb dX4_more_92 rfl (lv_at hl 4 rfl) ?_
            refine lv_istore_n (lv' := [(2, .int _), (3, .int _), (5, .int _), (0, .ref _), (1, .int _), (4, .int _)]) hx hb dX4_more_93 rfl hl (by decide) rfl (fun ls hl => ?_)
            refine lv_iinc (v := _ + 1) (lv' := [(4, .int _), (2, .int _), (3, .int _), (5, .int _), (0, .ref _), (1, .int _)]) hx hb dX4_more_94 hl (k := 5) rfl rfl (by decide) rfl (fun ls hl => ?_)
            refine lv_goto (tgt := 30) hx hb dX4_more_97 (by decide) ?_
            exact ih30 _ _ _ _ _ _ _ _ (lv_sub hl [4, 5, 1, 2, 0] rfl) hd he
          · replace he := i_f hc14 he
            refine lv_iload hx hb dX4_more_87 (lv_at hl 1 rfl) ?_
            refine lv_goto (tgt := 93) hx hb dX4_more_89 (by decide) ?_
            refine lv_istore_n (lv' := [(2, .int _), (3, .int _), (5, .int _), (0, .ref _), (1, .int _), (4, .int _)]) hx hb dX4_more_93 rfl hl (by decide) rfl (fun ls hl => ?_)
            refine lv_iinc (v := _ + 1) (lv' := [(4, .int _), (2, .int _), (3, .int _), (5, .int _), (0, .ref _), (1, .int _)]) hx hb dX4_more_94 hl (k := 5) rfl rfl (by decide) rfl (fun ls hl => ?_)
            refine lv_goto (tgt := 30) hx hb dX4_more_97 (by decide) ?_
            exact ih30 _ _ _ _ _ _ _ _ (lv_sub hl [4, 5, 1, 2, 0] rfl) hd he
  unfold f_X4_more at he
  refine lv_iload_n hx hb dX4_more_0 rfl (lv_at hl 1 rfl) ?_
  refine lv_i2l hx hb dX4_more_1 rfl ?_
  refine lv_lconst (v := 0) hx hb dX4_more_2 (by decide) ?_
  refine lv_ldc2 hx hb hown (hts _ tw891) dX4_more_3 ?_
  replace he := b_some he
  obtain ⟨⟨r1, V1⟩, h1, he⟩ := he
  refine kSZ C hd hl.1 kw_X4_44 (c_X4_in l G hJ h1) ⟨Nat.le_of_ble_eq_true rfl, Nat.le_of_ble_eq_true rfl⟩ rfl (rest := []) rfl (Nat.le_of_ble_eq_true rfl) dX4_more_6 (fun H locs hz1 hd => ?_)
  refine lv_if_ne (tgt := 19) hx hb dX4_more_9 (by decide) (fun hc2 => ?_) (fun hc2 => ?_)
  · replace he := i_f hc2 he
    refine lv_iconst (v := (-1)) hx hb dX4_more_19 (by decide) ?_
    refine lv_istore_n (lv' := [(2, .int _), (0, .ref _), (1, .int _)]) hx hb dX4_more_20 rfl hl (by decide) rfl (fun ls hl => ?_)
    refine lv_iconst (v := 0) hx hb dX4_more_21 (by decide) ?_
    refine lv_istore_n (lv' := [(3, .int _), (2, .int _), (0, .ref _), (1, .int _)]) hx hb dX4_more_22 rfl hl (by decide) rfl (fun ls hl => ?_)
    refine lv_aload_n hx hb dX4_more_23 rfl (lv_at hl 2 rfl) ?_
    replace he := b_some he
    obtain ⟨V3, h3, he⟩ := he
    refine kVV C hd hl.1 kw_X4_164 (by decide) cM0 rfl (c_X4_laysAside l G hJ h3) ⟨Nat.le_of_ble_eq_true rfl, Nat.le_of_ble_eq_true rfl⟩ rfl (rest := []) rfl (Nat.le_of_ble_eq_true rfl) dX4_more_24 (fun H locs hd => ?_)
    refine lv_iconst (v := 0) hx hb dX4_more_27 (by decide) ?_
    refine lv_istore (lv' := [(4, .int _), (3, .int _), (2, .int _), (0, .ref _), (1, .int _)]) hx hb dX4_more_28 hl (by decide) rfl (fun ls hl => ?_)
    exact L30 200 _ _ _ _ _ _ _ _ (lv_sub hl [3, 4, 2, 1, 0] rfl) hd he
  · replace he := i_t hc2 he
    refine lv_aload_n hx hb dX4_more_12 rfl (lv_at hl 0 rfl) ?_
    refine lv_ldc hx hb hown (hts _ tw768) dX4_more_13 ?_
    replace he := b_some he
    obtain ⟨⟨r15, V15⟩, h15, he⟩ := he
    refine kVI C hd hl.1 kw_X4_66 (by decide) cM0 rfl (c_X4_finds l G hJ h15) ⟨Nat.le_of_ble_eq_true rfl, Nat.le_of_ble_eq_true rfl⟩ rfl (rest := []) rfl (Nat.le_of_ble_eq_true rfl) dX4_more_15 (fun H locs hd => ?_)
    exact retIe (cf := (cM G)) C hr hlk hd he dX4_more_18
set_option maxRecDepth 100000 in
set_option maxHeartbeats 4000000 in
theorem c_X4_best (l : Launch) (G : Gd) (hJ : Inj 11 G.2.2) {a1 : Int32} {V V' : VV} {r : Int32} (he : f_X4_best a1 V = some (r, V')) : MI l 11 G XM yX4_best cX4_best 6 7 155 [.ref (G.2.2 0), .int a1] (cM G V) (cM G V') r := by
  refine walk_of (own := RX4) (by decide) rfl hJ (xs_M G) (Nat.le_of_ble_eq_true rfl) ?_
  intro p e s m below meth c C hr hlk ls hl hd
  have hl : lv_has ls 6 [(0, .ref (G.2.2 0)), (1, .int a1)] := hl
  obtain ⟨⟨hx, hb, hml, hown, hts⟩, -⟩ := id C
  have L30 : ∀ (fuel : Nat) (x1 : Int32) (x2 : Int32) (x3 : Int32) (x4 : Int32) (V : VV) (H : Heap) (locs : List Loc) (ls : Array Slot), lv_has ls 6 [(0, .ref (G.2.2 0)), (1, .int x1), (2, .int x2), (3, .int x3), (4, .int x4)] → Dy 11 G (cM G V) s H locs → f_X4_best_L30 fuel x1 x2 x3 x4 V = some (r, V') → W p l e (rmF 7 155) s m ([.ref (G.2.2 0), .int a1] : List Value).toArray below meth c H locs 0 0 (MQ below (QI 11 G (cM G V') (fun r' => r' = r)) ([.ref (G.2.2 0), .int a1] : List Value).toArray s 0 0 (inA 11 G.2.2)) (F0 m 30 ls []) := by
    intro fuel
    induction fuel with
    | zero => intro x1 x2 x3 x4 V H locs ls hl hd he; simp [f_X4_best_L30] at he
    | succ n ih30 =>
      intro x1 x2 x3 x4 V H locs ls hl hd he
      rw [f_X4_best_L30] at he
      refine lv_iload hx hb dX4_best_30 (lv_at hl 4 rfl) ?_
      refine lv_bipush (v := 36) hx hb dX4_best_32 (by decide) ?_
      refine lv_icmp_ge (tgt := 95) hx hb dX4_best_34 (by decide) (fun hc4 => ?_) (fun hc4 => ?_)
      · replace he := i_t hc4 he
        refine lv_iload_n hx hb dX4_best_95 rfl (lv_at hl 3 rfl) ?_
        exact retIe (cf := (cM G)) C hr hlk hd he dX4_best_96
      · replace he := i_f hc4 he
        refine lv_aload_n hx hb dX4_best_37 rfl (lv_at hl 0 rfl) ?_
        refine rgetf C hd (by decide) cM0 rfl tgX4 0 (by decide) tw701 rfl dX4_best_38 ?_
        refine lv_iconst (v := 3) hx hb dX4_best_41 (by decide) ?_
        refine lv_iload hx hb dX4_best_42 (lv_at hl 4 rfl) ?_
        replace he := g_some he
        obtain ⟨hi5, he⟩ := he
        replace he := bv_ex he
        obtain ⟨V6, e6, he⟩ := he
        refine riast (cell' := (cM G) V6) C hd (by decide) cMa1 hi5 (cMaw1 e6) (cM_ne e6) dX4_best_44 (fun H locs hd => ?_)
        refine lv_aload_n hx hb dX4_best_45 rfl (lv_at hl 0 rfl) ?_
        refine lv_iload_n hx hb dX4_best_46 rfl (lv_at hl 1 rfl) ?_
        replace he := b_some he
        obtain ⟨V7, h7, he⟩ := he
        refine kVV C hd hl.1 kw_X4_153 (by decide) cM0 rfl (c_X4_hoursGo l G hJ h7) ⟨Nat.le_of_ble_eq_true rfl, Nat.le_of_ble_eq_true rfl⟩ rfl (rest := []) rfl (Nat.le_of_ble_eq_true rfl) dX4_best_47 (fun H locs hd => ?_)
        refine lv_aload_n hx hb dX4_best_50 rfl (lv_at hl 0 rfl) ?_
        refine lv_aload_n hx hb dX4_best_51 rfl (lv_at hl 0 rfl) ?_
        replace he := b_some he
        obtain ⟨⟨r8, V8⟩, h8, he⟩ := he
        refine kVI C hd hl.1 kw_X4_124 (by decide) cM0 rfl (c_X4_thoseKept l G hJ h8) ⟨Nat.le_of_ble_eq_true rfl, Nat.le_of_ble_eq_true rfl⟩ rfl (rest := [.ref _]) rfl (Nat.le_of_ble_eq_true rfl) dX4_best_52 (fun H locs hd => ?_)
        replace he := b_some he
        obtain ⟨⟨r9, V9⟩, h9, he⟩ := he
        refine kSI C hd hl.1 kw_X4_128 (c_X4_ones l G hJ h9) ⟨Nat.le_of_ble_eq_true rfl, Nat.le_of_ble_eq_true rfl⟩ rfl (rest := [.ref _]) rfl (Nat.le_of_ble_eq_true rfl) dX4_best_55 (fun H locs hd => ?_)
        replace he := b_some he
        obtain ⟨⟨r10, V10⟩, h10, he⟩ := he
        refine kVI C hd hl.1 kw_X4_167 (by decide) cM0 rfl (c_X4_takesBack l G hJ h10) ⟨Nat.le_of_ble_eq_true rfl, Nat.le_of_ble_eq_true rfl⟩ rfl (rest := []) rfl (Nat.le_of_ble_eq_true rfl) dX4_best_58 (fun H locs hd => ?_)
        refine lv_istore (lv' := [(5, .int _), (0, .ref _), (1, .int _), (2, .int _), (3, .int _), (4, .int _)]) hx hb dX4_best_61 hl (by decide) rfl (fun ls hl => ?_)
        refine lv_iload hx hb dX4_best_63 (lv_at hl 0 rfl) ?_
        refine lv_iload_n hx hb dX4_best_65 rfl (lv_at hl 3 rfl) ?_
        refine lv_icmp_le (tgt := 74) hx hb dX4_best_66 (by decide) (fun hc11 => ?_) (fun hc11 => ?_)
        · replace he := i_t hc11 he
          refine lv_iload_n hx hb dX4_best_74 rfl (lv_at hl 4 rfl) ?_
          refine lv_istore_n (lv' := [(3, .int _), (5, .int _), (0, .ref _), (1, .int _), (2, .int _), (4, .int _)]) hx hb dX4_best_75 rfl hl (by decide) rfl (fun ls hl => ?_)
          refine lv_iload hx hb dX4_best_76 (lv_at hl 1 rfl) ?_
          refine lv_iload_n hx hb dX4_best_78 rfl (lv_at hl 4 rfl) ?_
          refine lv_icmp_le (tgt := 87) hx hb dX4_best_79 (by decide) (fun hc12 => ?_) (fun hc12 => ?_)
          · replace he := i_t hc12 he
            refine lv_iload_n hx hb dX4_best_87 rfl (lv_at hl 4 rfl) ?_
            refine lv_istore_n (lv' := [(2, .int _), (3, .int _), (5, .int _), (0, .ref _), (1, .int _), (4, .int _)]) hx hb dX4_best_88 rfl hl (by decide) rfl (fun ls hl => ?_)
            refine lv_iinc (v := _ + 1) (lv' := [(4, .int _), (2, .int _), (3, .int _), (5, .int _), (0, .ref _), (1, .int _)]) hx hb dX4_best_89 hl (k := 5) rfl rfl (by decide) rfl (fun ls hl => ?_)
            refine lv_goto (tgt := 30) hx hb dX4_best_92 (by decide) ?_
            exact ih30 _ _ _ _ _ _ _ _ (lv_sub hl [4, 5, 1, 2, 0] rfl) hd he
          · replace he := i_f hc12 he
            refine lv_iload hx hb dX4_best_82 (lv_at hl 1 rfl) ?_
            refine lv_goto (tgt := 88) hx hb dX4_best_84 (by decide) ?_
            refine lv_istore_n (lv' := [(2, .int _), (3, .int _), (5, .int _), (0, .ref _), (1, .int _), (4, .int _)]) hx hb dX4_best_88 rfl hl (by decide) rfl (fun ls hl => ?_)
            refine lv_iinc (v := _ + 1) (lv' := [(4, .int _), (2, .int _), (3, .int _), (5, .int _), (0, .ref _), (1, .int _)]) hx hb dX4_best_89 hl (k := 5) rfl rfl (by decide) rfl (fun ls hl => ?_)
            refine lv_goto (tgt := 30) hx hb dX4_best_92 (by decide) ?_
            exact ih30 _ _ _ _ _ _ _ _ (lv_sub hl [4, 5, 1, 2, 0] rfl) hd he
        · replace he := i_f hc11 he
          refine lv_iload hx hb dX4_best_69 (lv_at hl 5 rfl) ?_
          refine lv_goto (tgt := 75) hx hb dX4_best_71 (by decide) ?_
          refine lv_istore_n (lv' := [(3, .int _), (5, .int _), (0, .ref _), (1, .int _), (2, .int _), (4, .int _)]) hx hb dX4_best_75 rfl hl (by decide) rfl (fun ls hl => ?_)
          refine lv_iload hx hb dX4_best_76 (lv_at hl 1 rfl) ?_
          refine lv_iload_n hx hb dX4_best_78 rfl (lv_at hl 4 rfl) ?_
          refine lv_icmp_le (tgt := 87) hx hb dX4_best_79 (by decide) (fun hc13 => ?_) (fun hc13 => ?_)
          · replace he := i_t hc13 he
            refine lv_iload_n hx hb dX4_best_87 rfl (lv_at hl 4 rfl) ?_
            refine lv_istore_n (lv' := [(2, .int _), (3, .int _), (5, .int _), (0, .ref _), (1, .int _), (4, .int _)]) hx hb dX4_best_88 rfl hl (by decide) rfl (fun ls hl => ?_)
            refine lv_iinc (v := _ + 1) (lv' := [(4, .int _), (2, .int _), (3, .int _), (5, .int _), (0, .ref _), (1, .int _)]) hx hb dX4_best_89 hl (k := 5) rfl rfl (by decide) rfl (fun ls hl => ?_)
            refine lv_goto (tgt := 30) hx hb dX4_best_92 (by decide) ?_
            exact ih30 _ _ _ _ _ _ _ _ (lv_sub hl [4, 5, 1, 2, 0] rfl) hd he
          · replace he := i_f hc13 he
            refine lv_iload hx hb dX4_best_82 (lv_at hl 1 rfl) ?_
            refine lv_goto (tgt := 88) hx hb dX4_best_84 (by decide) ?_
            refine lv_istore_n (lv' := [(2, .int _), (3, .int _), (5, .int _), (0, .ref _), (1, .int _), (4, .int _)]) hx hb dX4_best_88 rfl hl (by decide) rfl (fun ls hl => ?_)
            refine lv_iinc (v := _ + 1) (lv' := [(4, .int _), (2, .int _), (3, .int _), (5, .int _), (0, .ref _), (1, .int _)]) hx hb dX4_best_89 hl (k := 5) rfl rfl (by decide) rfl (fun ls hl => ?_)
            refine lv_goto (tgt := 30) hx hb dX4_best_92 (by decide) ?_
            exact ih30 _ _ _ _ _ _ _ _ (lv_sub hl [4, 5, 1, 2, 0] rfl) hd he
  unfold f_X4_best at he
  refine lv_iload_n hx hb dX4_best_0 rfl (lv_at hl 1 rfl) ?_
  refine lv_i2l hx hb dX4_best_1 rfl ?_
  refine lv_lconst (v := 0) hx hb dX4_best_2 (by decide) ?_
  refine lv_ldc2 hx hb hown (hts _ tw1014) dX4_best_3 ?_
  replace he := b_some he
  obtain ⟨⟨r1, V1⟩, h1, he⟩ := he
  refine kSZ C hd hl.1 kw_X4_44 (c_X4_in l G hJ h1) ⟨Nat.le_of_ble_eq_true rfl, Nat.le_of_ble_eq_true rfl⟩ rfl (rest := []) rfl (Nat.le_of_ble_eq_true rfl) dX4_best_6 (fun H locs hz1 hd => ?_)
  refine lv_if_ne (tgt := 19) hx hb dX4_best_9 (by decide) (fun hc2 => ?_) (fun hc2 => ?_)
  · replace he := i_f hc2 he
    refine lv_iconst (v := (-1)) hx hb dX4_best_19 (by decide) ?_
    refine lv_istore_n (lv' := [(2, .int _), (0, .ref _), (1, .int _)]) hx hb dX4_best_20 rfl hl (by decide) rfl (fun ls hl => ?_)
    refine lv_iconst (v := 0) hx hb dX4_best_21 (by decide) ?_
    refine lv_istore_n (lv' := [(3, .int _), (2, .int _), (0, .ref _), (1, .int _)]) hx hb dX4_best_22 rfl hl (by decide) rfl (fun ls hl => ?_)
    refine lv_aload_n hx hb dX4_best_23 rfl (lv_at hl 2 rfl) ?_
    replace he := b_some he
    obtain ⟨V3, h3, he⟩ := he
    refine kVV C hd hl.1 kw_X4_164 (by decide) cM0 rfl (c_X4_laysAside l G hJ h3) ⟨Nat.le_of_ble_eq_true rfl, Nat.le_of_ble_eq_true rfl⟩ rfl (rest := []) rfl (Nat.le_of_ble_eq_true rfl) dX4_best_24 (fun H locs hd => ?_)
    refine lv_iconst (v := 0) hx hb dX4_best_27 (by decide) ?_
    refine lv_istore (lv' := [(4, .int _), (3, .int _), (2, .int _), (0, .ref _), (1, .int _)]) hx hb dX4_best_28 hl (by decide) rfl (fun ls hl => ?_)
    exact L30 200 _ _ _ _ _ _ _ _ (lv_sub hl [3, 4, 2, 1, 0] rfl) hd he
  · replace he := i_t hc2 he
    refine lv_aload_n hx hb dX4_best_12 rfl (lv_at hl 0 rfl) ?_
    refine lv_ldc hx hb hown (hts _ tw768) dX4_best_13 ?_
    replace he := b_some he
    obtain ⟨⟨r14, V14⟩, h14, he⟩ := he
    refine kVI C hd hl.1 kw_X4_66 (by decide) cM0 rfl (c_X4_finds l G hJ h14) ⟨Nat.le_of_ble_eq_true rfl, Nat.le_of_ble_eq_true rfl⟩ rfl (rest := []) rfl (Nat.le_of_ble_eq_true rfl) dX4_best_15 (fun H locs hd => ?_)
    exact retIe (cf := (cM G)) C hr hlk hd he dX4_best_18
set_option maxRecDepth 100000 in
set_option maxHeartbeats 4000000 in
theorem c_X4_feed (l : Launch) (G : Gd) (hJ : Inj 11 G.2.2) {a1 : Int32} {a2 : Int32} {V V' : VV} {r : Int32} (he : f_X4_feed a1 a2 V = some (r, V')) : MI l 11 G XM yX4_feed cX4_feed 4 1 25 [.ref (G.2.2 0), .int a1, .int a2] (cM G V) (cM G V') r := by
  refine walk_of (own := RX4) (by decide) rfl hJ (xs_M G) (Nat.le_of_ble_eq_true rfl) ?_
  intro p e s m below meth c C hr hlk ls hl hd
  have hl : lv_has ls 4 [(0, .ref (G.2.2 0)), (1, .int a1), (2, .int a2)] := hl
  obtain ⟨⟨hx, hb, hml, hown, hts⟩, -⟩ := id C
  have L41 : ∀ (fuel : Nat) (x1 : Int32) (x3 : Int32) (V : VV) (H : Heap) (locs : List Loc) (ls : Array Slot), lv_has ls 4 [(0, .ref (G.2.2 0)), (1, .int x1), (3, .int x3)] → Dy 11 G (cM G V) s H locs → f_X4_feed_L41 fuel x1 x3 V = some (r, V') → W p l e (rmF 1 25) s m ([.ref (G.2.2 0), .int a1, .int a2] : List Value).toArray below meth c H locs 0 0 (MQ below (QI 11 G (cM G V') (fun r' => r' = r)) ([.ref (G.2.2 0), .int a1, .int a2] : List Value).toArray s 0 0 (inA 11 G.2.2)) (F0 m 41 ls []) := by
    intro fuel
    induction fuel with
    | zero => intro x1 x3 V H locs ls hl hd he; simp [f_X4_feed_L41] at he
    | succ n ih41 =>
      intro x1 x3 V H locs ls hl hd he
      rw [f_X4_feed_L41] at he
      refine lv_iload_n hx hb dX4_feed_41 rfl (lv_at hl 2 rfl) ?_
      refine lv_if_lt (tgt := 80) hx hb dX4_feed_42 (by decide) (fun hc4 => ?_) (fun hc4 => ?_)
      · replace he := i_t hc4 he
        refine lv_aload_n hx hb dX4_feed_80 rfl (lv_at hl 0 rfl) ?_
        refine rgetf C hd (by decide) cM0 rfl tgX4 9 (by decide) tw710 rfl dX4_feed_81 ?_
        exact retIe (cf := (cM G)) C hr hlk hd he dX4_feed_84
      · replace he := i_f hc4 he
        refine lv_aload_n hx hb dX4_feed_45 rfl (lv_at hl 0 rfl) ?_
        refine rgetf C hd (by decide) cM0 rfl tgX4 8 (by decide) tw709 rfl dX4_feed_46 ?_
        refine lv_aload_n hx hb dX4_feed_49 rfl (lv_at hl 0 rfl) ?_
        refine rgetf C hd (by decide) cM0 rfl tgX4 9 (by decide) tw710 rfl dX4_feed_50 ?_
        refine lv_iload_n hx hb dX4_feed_53 rfl (lv_at hl 1 rfl) ?_
        refine lv_bipush (v := 8) hx hb dX4_feed_54 (by decide) ?_
        refine lv_iload_n hx hb dX4_feed_56 rfl (lv_at hl 2 rfl) ?_
        refine lv_imul hx hb dX4_feed_57 ?_
        refine lv_ishr hx hb dX4_feed_58 ?_
        refine lv_sipush (v := 255) hx hb dX4_feed_59 (by decide) ?_
        refine lv_iand hx hb dX4_feed_62 ?_
        replace he := g_some he
        obtain ⟨hi5, he⟩ := he
        replace he := bv_ex he
        obtain ⟨V6, e6, he⟩ := he
        refine riast (cell' := (cM G) V6) C hd (by decide) cMa6 hi5 (cMaw6 e6) (cM_ne e6) dX4_feed_63 (fun H locs hd => ?_)
        refine lv_aload_n hx hb dX4_feed_64 rfl (lv_at hl 0 rfl) ?_
        refine lv_dup hx hb dX4_feed_65 rfl ?_
        refine rgetf C hd (by decide) cM0 rfl tgX4 9 (by decide) tw710 rfl dX4_feed_66 ?_
        refine lv_iconst (v := 1) hx hb dX4_feed_69 (by decide) ?_
        refine lv_iadd hx hb dX4_feed_70 ?_
        replace he := bv_ex he
        obtain ⟨V7, e7, he⟩ := he
        refine rputf (cell' := (cM G) V7) C hd (by decide) cM0 rfl tgX4 tyX4 tyX4_ok nmX4 9 (by decide) tw710 rfl (tyX4_ok 9 (by decide)) rfl rfl (Nat.le_of_ble_eq_true rfl) (cM0_w (by decide) e7) (cM_ne e7) dX4_feed_71 (fun H locs hd => ?_)
        refine lv_iinc (v := _ + (-1)) (lv' := [(3, .int _), (0, .ref _), (1, .int _)]) hx hb dX4_feed_74 hl (k := 2) rfl rfl (by decide) rfl (fun ls hl => ?_)
        refine lv_goto (tgt := 41) hx hb dX4_feed_77 (by decide) ?_
        exact ih41 _ _ _ _ _ _ (lv_sub hl [1, 2, 0] rfl) hd he
  unfold f_X4_feed at he
  refine lv_iload_n hx hb dX4_feed_0 rfl (lv_at hl 2 rfl) ?_
  refine lv_i2l hx hb dX4_feed_1 rfl ?_
  refine lv_lconst (v := 1) hx hb dX4_feed_2 (by decide) ?_
  refine lv_ldc2 hx hb hown (hts _ tw1019) dX4_feed_3 ?_
  replace he := b_some he
  obtain ⟨⟨r1, V1⟩, h1, he⟩ := he
  refine kSZ C hd hl.1 kw_X4_44 (c_X4_in l G hJ h1) ⟨Nat.le_of_ble_eq_true rfl, Nat.le_of_ble_eq_true rfl⟩ rfl (rest := []) rfl (Nat.le_of_ble_eq_true rfl) dX4_feed_6 (fun H locs hz1 hd => ?_)
  refine lv_if_ne (tgt := 19) hx hb dX4_feed_9 (by decide) (fun hc2 => ?_) (fun hc2 => ?_)
  · replace he := i_f hc2 he
    refine lv_aload_n hx hb dX4_feed_19 rfl (lv_at hl 0 rfl) ?_
    refine rgetf C hd (by decide) cM0 rfl tgX4 9 (by decide) tw710 rfl dX4_feed_20 ?_
    refine lv_iload_n hx hb dX4_feed_23 rfl (lv_at hl 2 rfl) ?_
    refine lv_iadd hx hb dX4_feed_24 ?_
    refine lv_bipush (v := 120) hx hb dX4_feed_25 (by decide) ?_
    refine lv_icmp_le (tgt := 37) hx hb dX4_feed_27 (by decide) (fun hc3 => ?_) (fun hc3 => ?_)
    · replace he := i_t hc3 he
      refine lv_iload_n hx hb dX4_feed_37 rfl (lv_at hl 2 rfl) ?_
      refine lv_iconst (v := 1) hx hb dX4_feed_38 (by decide) ?_
      refine lv_isub hx hb dX4_feed_39 ?_
      refine lv_istore_n (lv' := [(3, .int _), (0, .ref _), (1, .int _), (2, .int _)]) hx hb dX4_feed_40 rfl hl (by decide) rfl (fun ls hl => ?_)
      exact L41 200 _ _ _ _ _ _ (lv_sub hl [1, 2, 0] rfl) hd he
    · replace he := i_f hc3 he
      refine lv_aload_n hx hb dX4_feed_30 rfl (lv_at hl 0 rfl) ?_
      refine lv_ldc hx hb hown (hts _ tw804) dX4_feed_31 ?_
      replace he := b_some he
      obtain ⟨⟨r8, V8⟩, h8, he⟩ := he
      refine kVI C hd hl.1 kw_X4_66 (by decide) cM0 rfl (c_X4_finds l G hJ h8) ⟨Nat.le_of_ble_eq_true rfl, Nat.le_of_ble_eq_true rfl⟩ rfl (rest := []) rfl (Nat.le_of_ble_eq_true rfl) dX4_feed_33 (fun H locs hd => ?_)
      exact retIe (cf := (cM G)) C hr hlk hd he dX4_feed_36
  · replace he := i_t hc2 he
    refine lv_aload_n hx hb dX4_feed_12 rfl (lv_at hl 0 rfl) ?_
    refine lv_ldc hx hb hown (hts _ tw768) dX4_feed_13 ?_
    replace he := b_some he
    obtain ⟨⟨r9, V9⟩, h9, he⟩ := he
    refine kVI C hd hl.1 kw_X4_66 (by decide) cM0 rfl (c_X4_finds l G hJ h9) ⟨Nat.le_of_ble_eq_true rfl, Nat.le_of_ble_eq_true rfl⟩ rfl (rest := []) rfl (Nat.le_of_ble_eq_true rfl) dX4_feed_15 (fun H locs hd => ?_)
    exact retIe (cf := (cM G)) C hr hlk hd he dX4_feed_18
set_option maxRecDepth 100000 in
set_option maxHeartbeats 4000000 in
theorem c_X4_wipe (l : Launch) (G : Gd) (hJ : Inj 11 G.2.2) {V V' : VV} {r : Int32} (he : f_X4_wipe V = some (r, V')) : MI l 11 G XM yX4_wipe cX4_wipe 2 0 0 [.ref (G.2.2 0)] (cM G V) (cM G V') r := by
  refine walk_of (own := RX4) (by decide) rfl hJ (xs_M G) (Nat.le_of_ble_eq_true rfl) ?_
  intro p e s m below meth c C hr hlk ls hl hd
  have hl : lv_has ls 2 [(0, .ref (G.2.2 0))] := hl
  obtain ⟨⟨hx, hb, hml, hown, hts⟩, -⟩ := id C
  unfold f_X4_wipe at he
  refine lv_aload_n hx hb dX4_wipe_0 rfl (lv_at hl 0 rfl) ?_
  refine rgetf C hd (by decide) cM0 rfl tgX4 9 (by decide) tw710 rfl dX4_wipe_1 ?_
  refine lv_istore_n (lv' := [(1, .int _), (0, .ref _)]) hx hb dX4_wipe_4 rfl hl (by decide) rfl (fun ls hl => ?_)
  refine lv_aload_n hx hb dX4_wipe_5 rfl (lv_at hl 1 rfl) ?_
  refine lv_iconst (v := 0) hx hb dX4_wipe_6 (by decide) ?_
  replace he := bv_ex he
  obtain ⟨V1, e1, he⟩ := he
  refine rputf (cell' := (cM G) V1) C hd (by decide) cM0 rfl tgX4 tyX4 tyX4_ok nmX4 9 (by decide) tw710 rfl (tyX4_ok 9 (by decide)) rfl rfl (Nat.le_of_ble_eq_true rfl) (cM0_w (by decide) e1) (cM_ne e1) dX4_wipe_7 (fun H locs hd => ?_)
  refine lv_iload_n hx hb dX4_wipe_10 rfl (lv_at hl 0 rfl) ?_
  exact retIe (cf := (cM G)) C hr hlk hd he dX4_wipe_11
set_option maxRecDepth 100000 in
set_option maxHeartbeats 4000000 in
theorem c_X4_byteAt (l : Launch) (G : Gd) (hJ : Inj 11 G.2.2) {a1 : Int32} {V V' : VV} {r : Int32} (he : f_X4_byteAt a1 V = some (r, V')) : MI l 11 G XM yX4_byteAt cX4_byteAt 2 0 0 [.ref (G.2.2 0), .int a1] (cM G V) (cM G V') r := by
  refine walk_of (own := RX4) (by decide) rfl hJ (xs_M G) (Nat.le_of_ble_eq_true rfl) ?_
  intro p e s m below meth c C hr hlk ls hl hd
  have hl : lv_has ls 2 [(0, .ref (G.2.2 0)), (1, .int a1)] := hl
  obtain ⟨⟨hx, hb, hml, hown, hts⟩, -⟩ := id C
  unfold f_X4_byteAt at he
  refine lv_iload_n hx hb dX4_byteAt_0 rfl (lv_at hl 1 rfl) ?_
  refine lv_aload_n hx hb dX4_byteAt_1 rfl (lv_at hl 0 rfl) ?_
  refine rgetf C hd (by decide) cM0 rfl tgX4 9 (by decide) tw710 rfl dX4_byteAt_2 ?_
  refine lv_icmp_ge (tgt := 17) hx hb dX4_byteAt_5 (by decide) (fun hc1 => ?_) (fun hc1 => ?_)
  · replace he := i_t hc1 he
    refine lv_iconst (v := (-1)) hx hb dX4_byteAt_17 (by decide) ?_
    exact retIe (cf := (cM G)) C hr hlk hd he dX4_byteAt_18
  · replace he := i_f hc1 he
    refine lv_aload_n hx hb dX4_byteAt_8 rfl (lv_at hl 0 rfl) ?_
    refine rgetf C hd (by decide) cM0 rfl tgX4 8 (by decide) tw709 rfl dX4_byteAt_9 ?_
    refine lv_iload_n hx hb dX4_byteAt_12 rfl (lv_at hl 1 rfl) ?_
    replace he := g_some he
    obtain ⟨hi2, he⟩ := he
    refine riald C hd (by decide) cMa6 hi2 dX4_byteAt_13 ?_
    refine lv_goto (tgt := 18) hx hb dX4_byteAt_14 (by decide) ?_
    exact retIe (cf := (cM G)) C hr hlk hd he dX4_byteAt_18
set_option maxRecDepth 100000 in
set_option maxHeartbeats 4000000 in
theorem c_X4_isLetter (l : Launch) (G : Gd) (hJ : Inj 11 G.2.2) {a1 : Int32} {V V' : VV} {r : Int32} (he : f_X4_isLetter a1 V = some (r, V')) : MZ l 11 G XM yX4_isLetter cX4_isLetter 1 1 25 [.int a1] (cM G V) (cM G V') r := by
  refine walk_of (own := RX4) (by decide) rfl hJ (xs_M G) (Nat.le_of_ble_eq_true rfl) ?_
  intro p e s m below meth c C hr hlk ls hl hd
  have hl : lv_has ls 1 [(0, .int a1)] := hl
  obtain ⟨⟨hx, hb, hml, hown, hts⟩, -⟩ := id C
  unfold f_X4_isLetter at he
  refine lv_iload_n hx hb dX4_isLetter_0 rfl (lv_at hl 0 rfl) ?_
  refine lv_i2l hx hb dX4_isLetter_1 rfl ?_
  refine lv_ldc2 hx hb hown (hts _ tw1043) dX4_isLetter_2 ?_
  refine lv_ldc2 hx hb hown (hts _ tw1044) dX4_isLetter_5 ?_
  replace he := b_some he
  obtain ⟨⟨r1, V1⟩, h1, he⟩ := he
  refine kSZ C hd hl.1 kw_X4_44 (c_X4_in l G hJ h1) ⟨Nat.le_of_ble_eq_true rfl, Nat.le_of_ble_eq_true rfl⟩ rfl (rest := []) rfl (Nat.le_of_ble_eq_true rfl) dX4_isLetter_8 (fun H locs hz1 hd => ?_)
  exact retZe (cf := (cM G)) C hr hlk hd hz1 he dX4_isLetter_11
set_option maxRecDepth 100000 in
set_option maxHeartbeats 4000000 in
theorem c_X4_isDigit (l : Launch) (G : Gd) (hJ : Inj 11 G.2.2) {a1 : Int32} {V V' : VV} {r : Int32} (he : f_X4_isDigit a1 V = some (r, V')) : MZ l 11 G XM yX4_isDigit cX4_isDigit 1 1 25 [.int a1] (cM G V) (cM G V') r := by
  refine walk_of (own := RX4) (by decide) rfl hJ (xs_M G) (Nat.le_of_ble_eq_true rfl) ?_
  intro p e s m below meth c C hr hlk ls hl hd
  have hl : lv_has ls 1 [(0, .int a1)] := hl
  obtain ⟨⟨hx, hb, hml, hown, hts⟩, -⟩ := id C
  unfold f_X4_isDigit at he
  refine lv_iload_n hx hb dX4_isDigit_0 rfl (lv_at hl 0 rfl) ?_
  refine lv_i2l hx hb dX4_isDigit_1 rfl ?_
  refine lv_ldc2 hx hb hown (hts _ tw1048) dX4_isDigit_2 ?_
  refine lv_ldc2 hx hb hown (hts _ tw1049) dX4_isDigit_5 ?_
  replace he := b_some he
  obtain ⟨⟨r1, V1⟩, h1, he⟩ := he
  refine kSZ C hd hl.1 kw_X4_44 (c_X4_in l G hJ h1) ⟨Nat.le_of_ble_eq_true rfl, Nat.le_of_ble_eq_true rfl⟩ rfl (rest := []) rfl (Nat.le_of_ble_eq_true rfl) dX4_isDigit_8 (fun H locs hz1 hd => ?_)
  exact retZe (cf := (cM G)) C hr hlk hd hz1 he dX4_isDigit_11
set_option maxRecDepth 100000 in
set_option maxHeartbeats 4000000 in
theorem c_X4_token (l : Launch) (G : Gd) (hJ : Inj 11 G.2.2) {V V' : VV} (he : f_X4_token V = some V') : MV l 11 G XM yX4_token cX4_token 3 2 45 [.ref (G.2.2 0)] (cM G V) (cM G V') := by
  refine walk_of (own := RX4) (by decide) rfl hJ (xs_M G) (Nat.le_of_ble_eq_true rfl) ?_
  intro p e s m below meth c C hr hlk ls hl hd
  have hl : lv_has ls 3 [(0, .ref (G.2.2 0))] := hl
  obtain ⟨⟨hx, hb, hml, hown, hts⟩, -⟩ := id C
  have L86 : ∀ (fuel : Nat) (x1 : Int32) (x2 : Int32) (V : VV) (H : Heap) (locs : List Loc) (ls : Array Slot), lv_has ls 3 [(0, .ref (G.2.2 0)), (1, .int x1), (2, .int x2)] → Dy 11 G (cM G V) s H locs → f_X4_token_L86 fuel x1 x2 V = some V' → W p l e (rmF 2 45) s m ([.ref (G.2.2 0)] : List Value).toArray below meth c H locs 0 0 (MQ below (QV 11 G (cM G V')) ([.ref (G.2.2 0)] : List Value).toArray s 0 0 (inA 11 G.2.2)) (F0 m 86 ls []) := by
    intro fuel
    induction fuel with
    | zero => intro x1 x2 V H locs ls hl hd he; simp [f_X4_token_L86] at he
    | succ n ih86 =>
      intro x1 x2 V H locs ls hl hd he
      rw [f_X4_token_L86] at he
      refine lv_iload_n hx hb dX4_token_86 rfl (lv_at hl 1 rfl) ?_
      refine lv_if_eq (tgt := 104) hx hb dX4_token_87 (by decide) (fun hc10 => ?_) (fun hc10 => ?_)
      · replace he := i_t hc10 he
        refine lv_iload_n hx hb dX4_token_104 rfl (lv_at hl 2 rfl) ?_
        refine lv_if_eq (tgt := 135) hx hb dX4_token_105 (by decide) (fun hc11 => ?_) (fun hc11 => ?_)
        · replace he := i_t hc11 he
          exact retVe (cf := (cM G)) C hr hlk hd he dX4_token_135
        · replace he := i_f hc11 he
          refine lv_aload_n hx hb dX4_token_108 rfl (lv_at hl 0 rfl) ?_
          refine lv_aload_n hx hb dX4_token_109 rfl (lv_at hl 0 rfl) ?_
          refine rgetf C hd (by decide) cM0 rfl tgX4 11 (by decide) tw712 rfl dX4_token_110 ?_
          replace he := b_some he
          obtain ⟨⟨r12, V12⟩, h12, he⟩ := he
          refine kVI C hd hl.1 kw_X4_220 (by decide) cM0 rfl (c_X4_byteAt l G hJ h12) ⟨Nat.le_of_ble_eq_true rfl, Nat.le_of_ble_eq_true rfl⟩ rfl (rest := []) rfl (Nat.le_of_ble_eq_true rfl) dX4_token_113 (fun H locs hd => ?_)
          replace he := b_some he
          obtain ⟨⟨r13, V13⟩, h13, he⟩ := he
          refine kSZ C hd hl.1 kw_X4_226 (c_X4_isDigit l G hJ h13) ⟨Nat.le_of_ble_eq_true rfl, Nat.le_of_ble_eq_true rfl⟩ rfl (rest := []) rfl (Nat.le_of_ble_eq_true rfl) dX4_token_116 (fun H locs hz13 hd => ?_)
          refine lv_if_eq (tgt := 135) hx hb dX4_token_119 (by decide) (fun hc14 => ?_) (fun hc14 => ?_)
          · replace he := i_t hc14 he
            exact retVe (cf := (cM G)) C hr hlk hd he dX4_token_135
          · replace he := i_f hc14 he
            refine lv_aload_n hx hb dX4_token_122 rfl (lv_at hl 0 rfl) ?_
            refine lv_dup hx hb dX4_token_123 rfl ?_
            refine rgetf C hd (by decide) cM0 rfl tgX4 11 (by decide) tw712 rfl dX4_token_124 ?_
            refine lv_iconst (v := 1) hx hb dX4_token_127 (by decide) ?_
            refine lv_iadd hx hb dX4_token_128 ?_
            replace he := bv_ex he
            obtain ⟨V15, e15, he⟩ := he
            refine rputf (cell' := (cM G) V15) C hd (by decide) cM0 rfl tgX4 tyX4 tyX4_ok nmX4 11 (by decide) tw712 rfl (tyX4_ok 11 (by decide)) rfl rfl (Nat.le_of_ble_eq_true rfl) (cM0_w (by decide) e15) (cM_ne e15) dX4_token_129 (fun H locs hd => ?_)
            refine lv_goto (tgt := 86) hx hb dX4_token_132 (by decide) ?_
            exact ih86 _ _ _ _ _ _ (lv_sub hl [0, 1, 2] rfl) hd he
      · replace he := i_f hc10 he
        refine lv_aload_n hx hb dX4_token_90 rfl (lv_at hl 0 rfl) ?_
        refine lv_aload_n hx hb dX4_token_91 rfl (lv_at hl 0 rfl) ?_
        refine rgetf C hd (by decide) cM0 rfl tgX4 11 (by decide) tw712 rfl dX4_token_92 ?_
        replace he := b_some he
        obtain ⟨⟨r16, V16⟩, h16, he⟩ := he
        refine kVI C hd hl.1 kw_X4_220 (by decide) cM0 rfl (c_X4_byteAt l G hJ h16) ⟨Nat.le_of_ble_eq_true rfl, Nat.le_of_ble_eq_true rfl⟩ rfl (rest := []) rfl (Nat.le_of_ble_eq_true rfl) dX4_token_95 (fun H locs hd => ?_)
        replace he := b_some he
        obtain ⟨⟨r17, V17⟩, h17, he⟩ := he
        refine kSZ C hd hl.1 kw_X4_223 (c_X4_isLetter l G hJ h17) ⟨Nat.le_of_ble_eq_true rfl, Nat.le_of_ble_eq_true rfl⟩ rfl (rest := []) rfl (Nat.le_of_ble_eq_true rfl) dX4_token_98 (fun H locs hz17 hd => ?_)
        refine lv_if_ne (tgt := 122) hx hb dX4_token_101 (by decide) (fun hc18 => ?_) (fun hc18 => ?_)
        · replace he := i_f hc18 he
          refine lv_aload_n hx hb dX4_token_122 rfl (lv_at hl 0 rfl) ?_
          refine lv_dup hx hb dX4_token_123 rfl ?_
          refine rgetf C hd (by decide) cM0 rfl tgX4 11 (by decide) tw712 rfl dX4_token_124 ?_
          refine lv_iconst (v := 1) hx hb dX4_token_127 (by decide) ?_
          refine lv_iadd hx hb dX4_token_128 ?_
          replace he := bv_ex he
          obtain ⟨V19, e19, he⟩ := he
          refine rputf (cell' := (cM G) V19) C hd (by decide) cM0 rfl tgX4 tyX4 tyX4_ok nmX4 11 (by decide) tw712 rfl (tyX4_ok 11 (by decide)) rfl rfl (Nat.le_of_ble_eq_true rfl) (cM0_w (by decide) e19) (cM_ne e19) dX4_token_129 (fun H locs hd => ?_)
          refine lv_goto (tgt := 86) hx hb dX4_token_132 (by decide) ?_
          exact ih86 _ _ _ _ _ _ (lv_sub hl [0, 1, 2] rfl) hd he
        · replace he := i_t hc18 he
          refine lv_iload_n hx hb dX4_token_104 rfl (lv_at hl 2 rfl) ?_
          refine lv_if_eq (tgt := 135) hx hb dX4_token_105 (by decide) (fun hc20 => ?_) (fun hc20 => ?_)
          · replace he := i_t hc20 he
            exact retVe (cf := (cM G)) C hr hlk hd he dX4_token_135
          · replace he := i_f hc20 he
            refine lv_aload_n hx hb dX4_token_108 rfl (lv_at hl 0 rfl) ?_
            refine lv_aload_n hx hb dX4_token_109 rfl (lv_at hl 0 rfl) ?_
            refine rgetf C hd (by decide) cM0 rfl tgX4 11 (by decide) tw712 rfl dX4_token_110 ?_
            replace he := b_some he
            obtain ⟨⟨r21, V21⟩, h21, he⟩ := he
            refine kVI C hd hl.1 kw_X4_220 (by decide) cM0 rfl (c_X4_byteAt l G hJ h21) ⟨Nat.le_of_ble_eq_true rfl, Nat.le_of_ble_eq_true rfl⟩ rfl (rest := []) rfl (Nat.le_of_ble_eq_true rfl) dX4_token_113 (fun H locs hd => ?_)
            replace he := b_some he
            obtain ⟨⟨r22, V22⟩, h22, he⟩ := he
            refine kSZ C hd hl.1 kw_X4_226 (c_X4_isDigit l G hJ h22) ⟨Nat.le_of_ble_eq_true rfl, Nat.le_of_ble_eq_true rfl⟩ rfl (rest := []) rfl (Nat.le_of_ble_eq_true rfl) dX4_token_116 (fun H locs hz22 hd => ?_)
            refine lv_if_eq (tgt := 135) hx hb dX4_token_119 (by decide) (fun hc23 => ?_) (fun hc23 => ?_)
            · replace he := i_t hc23 he
              exact retVe (cf := (cM G)) C hr hlk hd he dX4_token_135
            · replace he := i_f hc23 he
              refine lv_aload_n hx hb dX4_token_122 rfl (lv_at hl 0 rfl) ?_
              refine lv_dup hx hb dX4_token_123 rfl ?_
              refine rgetf C hd (by decide) cM0 rfl tgX4 11 (by decide) tw712 rfl dX4_token_124 ?_
              refine lv_iconst (v := 1) hx hb dX4_token_127 (by decide) ?_
              refine lv_iadd hx hb dX4_token_128 ?_
              replace he := bv_ex he
              obtain ⟨V24, e24, he⟩ := he
              refine rputf (cell' := (cM G) V24) C hd (by decide) cM0 rfl tgX4 tyX4 tyX4_ok nmX4 11 (by decide) tw712 rfl (tyX4_ok 11 (by decide)) rfl rfl (Nat.le_of_ble_eq_true rfl) (cM0_w (by decide) e24) (cM_ne e24) dX4_token_129 (fun H locs hd => ?_)
              refine lv_goto (tgt := 86) hx hb dX4_token_132 (by decide) ?_
              exact ih86 _ _ _ _ _ _ (lv_sub hl [0, 1, 2] rfl) hd he
  have L8 : ∀ (fuel : Nat) (V : VV) (H : Heap) (locs : List Loc) (ls : Array Slot), lv_has ls 3 [(0, .ref (G.2.2 0))] → Dy 11 G (cM G V) s H locs → f_X4_token_L8 fuel  V = some V' → W p l e (rmF 2 45) s m ([.ref (G.2.2 0)] : List Value).toArray below meth c H locs 0 0 (MQ below (QV 11 G (cM G V')) ([.ref (G.2.2 0)] : List Value).toArray s 0 0 (inA 11 G.2.2)) (F0 m 8 ls []) := by
    intro fuel
    induction fuel with
    | zero => intro  V H locs ls hl hd he; simp [f_X4_token_L8] at he
    | succ n ih8 =>
      intro  V H locs ls hl hd he
      rw [f_X4_token_L8] at he
      refine lv_aload_n hx hb dX4_token_8 rfl (lv_at hl 0 rfl) ?_
      refine lv_aload_n hx hb dX4_token_9 rfl (lv_at hl 0 rfl) ?_
      refine rgetf C hd (by decide) cM0 rfl tgX4 10 (by decide) tw711 rfl dX4_token_10 ?_
      replace he := b_some he
      obtain ⟨⟨r2, V2⟩, h2, he⟩ := he
      refine kVI C hd hl.1 kw_X4_220 (by decide) cM0 rfl (c_X4_byteAt l G hJ h2) ⟨Nat.le_of_ble_eq_true rfl, Nat.le_of_ble_eq_true rfl⟩ rfl (rest := []) rfl (Nat.le_of_ble_eq_true rfl) dX4_token_13 (fun H locs hd => ?_)
      refine lv_bipush (v := 32) hx hb dX4_token_16 (by decide) ?_
      refine lv_icmp_ne (tgt := 34) hx hb dX4_token_18 (by decide) (fun hc3 => ?_) (fun hc3 => ?_)
      · replace he := i_f hc3 he
        refine lv_aload_n hx hb dX4_token_34 rfl (lv_at hl 0 rfl) ?_
        refine lv_aload_n hx hb dX4_token_35 rfl (lv_at hl 0 rfl) ?_
        refine rgetf C hd (by decide) cM0 rfl tgX4 10 (by decide) tw711 rfl dX4_token_36 ?_
        replace he := b_some he
        obtain ⟨⟨r4, V4⟩, h4, he⟩ := he
        refine kVI C hd hl.1 kw_X4_220 (by decide) cM0 rfl (c_X4_byteAt l G hJ h4) ⟨Nat.le_of_ble_eq_true rfl, Nat.le_of_ble_eq_true rfl⟩ rfl (rest := []) rfl (Nat.le_of_ble_eq_true rfl) dX4_token_39 (fun H locs hd => ?_)
        replace he := b_some he
        obtain ⟨⟨r5, V5⟩, h5, he⟩ := he
        refine kSZ C hd hl.1 kw_X4_223 (c_X4_isLetter l G hJ h5) ⟨Nat.le_of_ble_eq_true rfl, Nat.le_of_ble_eq_true rfl⟩ rfl (rest := []) rfl (Nat.le_of_ble_eq_true rfl) dX4_token_42 (fun H locs hz5 hd => ?_)
        refine lv_istore_n (lv' := [(1, .int _), (0, .ref _)]) hx hb dX4_token_45 rfl hl (by decide) rfl (fun ls hl => ?_)
        refine lv_aload_n hx hb dX4_token_46 rfl (lv_at hl 1 rfl) ?_
        refine lv_aload_n hx hb dX4_token_47 rfl (lv_at hl 1 rfl) ?_
        refine rgetf C hd (by decide) cM0 rfl tgX4 10 (by decide) tw711 rfl dX4_token_48 ?_
        replace he := b_some he
        obtain ⟨⟨r6, V6⟩, h6, he⟩ := he
        refine kVI C hd hl.1 kw_X4_220 (by decide) cM0 rfl (c_X4_byteAt l G hJ h6) ⟨Nat.le_of_ble_eq_true rfl, Nat.le_of_ble_eq_true rfl⟩ rfl (rest := []) rfl (Nat.le_of_ble_eq_true rfl) dX4_token_51 (fun H locs hd => ?_)
        replace he := b_some he
        obtain ⟨⟨r7, V7⟩, h7, he⟩ := he
        refine kSZ C hd hl.1 kw_X4_226 (c_X4_isDigit l G hJ h7) ⟨Nat.le_of_ble_eq_true rfl, Nat.le_of_ble_eq_true rfl⟩ rfl (rest := []) rfl (Nat.le_of_ble_eq_true rfl) dX4_token_54 (fun H locs hz7 hd => ?_)
        refine lv_istore_n (lv' := [(2, .int _), (1, .int _), (0, .ref _)]) hx hb dX4_token_57 rfl hl (by decide) rfl (fun ls hl => ?_)
        refine lv_aload_n hx hb dX4_token_58 rfl (lv_at hl 2 rfl) ?_
        refine lv_aload_n hx hb dX4_token_59 rfl (lv_at hl 2 rfl) ?_
        refine rgetf C hd (by decide) cM0 rfl tgX4 10 (by decide) tw711 rfl dX4_token_60 ?_
        refine lv_aload_n hx hb dX4_token_63 rfl (lv_at hl 2 rfl) ?_
        refine rgetf C hd (by decide) cM0 rfl tgX4 9 (by decide) tw710 rfl dX4_token_64 ?_
        refine lv_icmp_ge (tgt := 79) hx hb dX4_token_67 (by decide) (fun hc8 => ?_) (fun hc8 => ?_)
        · replace he := i_t hc8 he
          refine lv_aload_n hx hb dX4_token_79 rfl (lv_at hl 2 rfl) ?_
          refine rgetf C hd (by decide) cM0 rfl tgX4 10 (by decide) tw711 rfl dX4_token_80 ?_
          replace he := bv_ex he
          obtain ⟨V9, e9, he⟩ := he
          refine rputf (cell' := (cM G) V9) C hd (by decide) cM0 rfl tgX4 tyX4 tyX4_ok nmX4 11 (by decide) tw712 rfl (tyX4_ok 11 (by decide)) rfl rfl (Nat.le_of_ble_eq_true rfl) (cM0_w (by decide) e9) (cM_ne e9) dX4_token_83 (fun H locs hd => ?_)
          exact L86 200 _ _ _ _ _ _ (lv_sub hl [2, 1, 0] rfl) hd he
        · replace he := i_f hc8 he
          refine lv_aload_n hx hb dX4_token_70 rfl (lv_at hl 2 rfl) ?_
          refine rgetf C hd (by decide) cM0 rfl tgX4 10 (by decide) tw711 rfl dX4_token_71 ?_
          refine lv_iconst (v := 1) hx hb dX4_token_74 (by decide) ?_
          refine lv_iadd hx hb dX4_token_75 ?_
          refine lv_goto (tgt := 83) hx hb dX4_token_76 (by decide) ?_
          replace he := bv_ex he
          obtain ⟨V25, e25, he⟩ := he
          refine rputf (cell' := (cM G) V25) C hd (by decide) cM0 rfl tgX4 tyX4 tyX4_ok nmX4 11 (by decide) tw712 rfl (tyX4_ok 11 (by decide)) rfl rfl (Nat.le_of_ble_eq_true rfl) (cM0_w (by decide) e25) (cM_ne e25) dX4_token_83 (fun H locs hd => ?_)
          exact L86 200 _ _ _ _ _ _ (lv_sub hl [2, 1, 0] rfl) hd he
      · replace he := i_t hc3 he
        refine lv_aload_n hx hb dX4_token_21 rfl (lv_at hl 0 rfl) ?_
        refine lv_dup hx hb dX4_token_22 rfl ?_
        refine rgetf C hd (by decide) cM0 rfl tgX4 10 (by decide) tw711 rfl dX4_token_23 ?_
        refine lv_iconst (v := 1) hx hb dX4_token_26 (by decide) ?_
        refine lv_iadd hx hb dX4_token_27 ?_
        replace he := bv_ex he
        obtain ⟨V26, e26, he⟩ := he
        refine rputf (cell' := (cM G) V26) C hd (by decide) cM0 rfl tgX4 tyX4 tyX4_ok nmX4 10 (by decide) tw711 rfl (tyX4_ok 10 (by decide)) rfl rfl (Nat.le_of_ble_eq_true rfl) (cM0_w (by decide) e26) (cM_ne e26) dX4_token_28 (fun H locs hd => ?_)
        refine lv_goto (tgt := 8) hx hb dX4_token_31 (by decide) ?_
        exact ih8  _ _ _ _ (lv_sub hl [0] rfl) hd he
  unfold f_X4_token at he
  refine lv_aload_n hx hb dX4_token_0 rfl (lv_at hl 0 rfl) ?_
  refine lv_aload_n hx hb dX4_token_1 rfl (lv_at hl 0 rfl) ?_
  refine rgetf C hd (by decide) cM0 rfl tgX4 11 (by decide) tw712 rfl dX4_token_2 ?_
  replace he := bv_ex he
  obtain ⟨V1, e1, he⟩ := he
  refine rputf (cell' := (cM G) V1) C hd (by decide) cM0 rfl tgX4 tyX4 tyX4_ok nmX4 10 (by decide) tw711 rfl (tyX4_ok 10 (by decide)) rfl rfl (Nat.le_of_ble_eq_true rfl) (cM0_w (by decide) e1) (cM_ne e1) dX4_token_5 (fun H locs hd => ?_)
  exact L8 200  _ _ _ _ (lv_sub hl [0] rfl) hd he
set_option maxRecDepth 100000 in
set_option maxHeartbeats 4000000 in
theorem c_X4_must (l : Launch) (G : Gd) (hJ : Inj 11 G.2.2) {a1 : Int32} {V V' : VV} (he : f_X4_must a1 V = some V') : MV l 11 G XM yX4_must cX4_must 2 3 67 [.ref (G.2.2 0), .int a1] (cM G V) (cM G V') := by
  refine walk_of (own := RX4) (by decide) rfl hJ (xs_M G) (Nat.le_of_ble_eq_true rfl) ?_
  intro p e s m below meth c C hr hlk ls hl hd
  have hl : lv_has ls 2 [(0, .ref (G.2.2 0)), (1, .int a1)] := hl
  obtain ⟨⟨hx, hb, hml, hown, hts⟩, -⟩ := id C
  unfold f_X4_must at he
  refine lv_aload_n hx hb dX4_must_0 rfl (lv_at hl 0 rfl) ?_
  refine lv_aload_n hx hb dX4_must_1 rfl (lv_at hl 0 rfl) ?_
  refine rgetf C hd (by decide) cM0 rfl tgX4 13 (by decide) tw714 rfl dX4_must_2 ?_
  refine lv_if_ne (tgt := 12) hx hb dX4_must_5 (by decide) (fun hc1 => ?_) (fun hc1 => ?_)
  · replace he := i_f hc1 he
    refine lv_iconst (v := 1) hx hb dX4_must_12 (by decide) ?_
    refine lv_goto (tgt := 17) hx hb dX4_must_13 (by decide) ?_
    replace he := bv_ex he
    obtain ⟨V2, e2, he⟩ := he
    refine rputf (cell' := (cM G) V2) C hd (by decide) cM0 rfl tgX4 tyX4 tyX4_ok nmX4 13 (by decide) tw714 rfl (tyX4_ok 13 (by decide)) rfl rfl (Nat.le_of_ble_eq_true rfl) (cM0_w (by decide) e2) (cM_ne e2) dX4_must_17 (fun H locs hd => ?_)
    refine lv_aload_n hx hb dX4_must_20 rfl (lv_at hl 0 rfl) ?_
    refine rgetf C hd (by decide) cM0 rfl tgX4 13 (by decide) tw714 rfl dX4_must_21 ?_
    refine lv_if_ne (tgt := 31) hx hb dX4_must_24 (by decide) (fun hc3 => ?_) (fun hc3 => ?_)
    · replace he := i_f hc3 he
      exact retVe (cf := (cM G)) C hr hlk hd he dX4_must_31
    · replace he := i_t hc3 he
      refine lv_aload_n hx hb dX4_must_27 rfl (lv_at hl 0 rfl) ?_
      replace he := b_some he
      obtain ⟨V4, h4, he⟩ := he
      refine kVV C hd hl.1 kw_X4_233 (by decide) cM0 rfl (c_X4_token l G hJ h4) ⟨Nat.le_of_ble_eq_true rfl, Nat.le_of_ble_eq_true rfl⟩ rfl (rest := []) rfl (Nat.le_of_ble_eq_true rfl) dX4_must_28 (fun H locs hd => ?_)
      exact retVe (cf := (cM G)) C hr hlk hd he dX4_must_31
  · replace he := i_t hc1 he
    refine lv_iload_n hx hb dX4_must_8 rfl (lv_at hl 1 rfl) ?_
    refine lv_if_ne (tgt := 16) hx hb dX4_must_9 (by decide) (fun hc5 => ?_) (fun hc5 => ?_)
    · replace he := i_f hc5 he
      refine lv_iconst (v := 0) hx hb dX4_must_16 (by decide) ?_
      replace he := bv_ex he
      obtain ⟨V6, e6, he⟩ := he
      refine rputf (cell' := (cM G) V6) C hd (by decide) cM0 rfl tgX4 tyX4 tyX4_ok nmX4 13 (by decide) tw714 rfl (tyX4_ok 13 (by decide)) rfl rfl (Nat.le_of_ble_eq_true rfl) (cM0_w (by decide) e6) (cM_ne e6) dX4_must_17 (fun H locs hd => ?_)
      refine lv_aload_n hx hb dX4_must_20 rfl (lv_at hl 0 rfl) ?_
      refine rgetf C hd (by decide) cM0 rfl tgX4 13 (by decide) tw714 rfl dX4_must_21 ?_
      refine lv_if_ne (tgt := 31) hx hb dX4_must_24 (by decide) (fun hc7 => ?_) (fun hc7 => ?_)
      · replace he := i_f hc7 he
        exact retVe (cf := (cM G)) C hr hlk hd he dX4_must_31
      · replace he := i_t hc7 he
        refine lv_aload_n hx hb dX4_must_27 rfl (lv_at hl 0 rfl) ?_
        replace he := b_some he
        obtain ⟨V8, h8, he⟩ := he
        refine kVV C hd hl.1 kw_X4_233 (by decide) cM0 rfl (c_X4_token l G hJ h8) ⟨Nat.le_of_ble_eq_true rfl, Nat.le_of_ble_eq_true rfl⟩ rfl (rest := []) rfl (Nat.le_of_ble_eq_true rfl) dX4_must_28 (fun H locs hd => ?_)
        exact retVe (cf := (cM G)) C hr hlk hd he dX4_must_31
    · replace he := i_t hc5 he
      refine lv_iconst (v := 1) hx hb dX4_must_12 (by decide) ?_
      refine lv_goto (tgt := 17) hx hb dX4_must_13 (by decide) ?_
      replace he := bv_ex he
      obtain ⟨V9, e9, he⟩ := he
      refine rputf (cell' := (cM G) V9) C hd (by decide) cM0 rfl tgX4 tyX4 tyX4_ok nmX4 13 (by decide) tw714 rfl (tyX4_ok 13 (by decide)) rfl rfl (Nat.le_of_ble_eq_true rfl) (cM0_w (by decide) e9) (cM_ne e9) dX4_must_17 (fun H locs hd => ?_)
      refine lv_aload_n hx hb dX4_must_20 rfl (lv_at hl 0 rfl) ?_
      refine rgetf C hd (by decide) cM0 rfl tgX4 13 (by decide) tw714 rfl dX4_must_21 ?_
      refine lv_if_ne (tgt := 31) hx hb dX4_must_24 (by decide) (fun hc10 => ?_) (fun hc10 => ?_)
      · replace he := i_f hc10 he
        exact retVe (cf := (cM G)) C hr hlk hd he dX4_must_31
      · replace he := i_t hc10 he
        refine lv_aload_n hx hb dX4_must_27 rfl (lv_at hl 0 rfl) ?_
        replace he := b_some he
        obtain ⟨V11, h11, he⟩ := he
        refine kVV C hd hl.1 kw_X4_233 (by decide) cM0 rfl (c_X4_token l G hJ h11) ⟨Nat.le_of_ble_eq_true rfl, Nat.le_of_ble_eq_true rfl⟩ rfl (rest := []) rfl (Nat.le_of_ble_eq_true rfl) dX4_must_28 (fun H locs hd => ?_)
        exact retVe (cf := (cM G)) C hr hlk hd he dX4_must_31
