set_option maxRecDepth 100000 in
set_option maxHeartbeats 4000000 in
theorem c_X3_finding (l : Launch) (G : Gd) (ks : Ks) (hJ : Inj 37 G.2.2) {a1 : Int32} {V V' : VV} {r : Int32} (he : f_X3_finding a1 V = some (r, V')) : MI l 37 G (XC G ks) yX3_finding cX3_finding 3 0 0 [.ref (G.2.2 24), .int a1] (cC G V) (cC G V') r := by
  refine walk_of (own := RX3) (by decide) rfl hJ (xs_C G ks) (Nat.le_of_ble_eq_true rfl) ?_
  intro p e s m below meth c C hr hlk ls hl hd
  have hl : lv_has ls 3 [(0, .ref (G.2.2 24)), (1, .int a1)] := hl
  obtain ⟨⟨hx, hb, hml, hown, hts⟩, -⟩ := id C
  unfold f_X3_finding at he
  refine lv_ldc hx hb hown (hts _ uw226) dX3_finding_0 ?_
  refine lv_iload_n hx hb dX3_finding_2 rfl (lv_at hl 1 rfl) ?_
  refine lv_isub hx hb dX3_finding_3 ?_
  refine lv_istore_n (lv' := [(2, .int _), (0, .ref _), (1, .int _)]) hx hb dX3_finding_4 rfl hl (by decide) rfl (fun ls hl => ?_)
  refine lv_iload_n hx hb dX3_finding_5 rfl (lv_at hl 0 rfl) ?_
  refine lv_if_lt (tgt := 25) hx hb dX3_finding_6 (by decide) (fun hc1 => ?_) (fun hc1 => ?_)
  · replace he := i_t hc1 he
    refine lv_iload_n hx hb dX3_finding_25 rfl (lv_at hl 2 rfl) ?_
    exact retIe (cf := (cC G)) C hr hlk hd he dX3_finding_26
  · replace he := i_f hc1 he
    refine lv_iload_n hx hb dX3_finding_9 rfl (lv_at hl 0 rfl) ?_
    refine lv_bipush (v := 7) hx hb dX3_finding_10 (by decide) ?_
    refine lv_icmp_ge (tgt := 25) hx hb dX3_finding_12 (by decide) (fun hc2 => ?_) (fun hc2 => ?_)
    · replace he := i_t hc2 he
      refine lv_iload_n hx hb dX3_finding_25 rfl (lv_at hl 2 rfl) ?_
      exact retIe (cf := (cC G)) C hr hlk hd he dX3_finding_26
    · replace he := i_f hc2 he
      refine lv_aload_n hx hb dX3_finding_15 rfl (lv_at hl 1 rfl) ?_
      refine rgetf C hd (by decide) cC24 rfl tgX3 6 (by decide) uw205 rfl dX3_finding_16 ?_
      refine lv_iload_n hx hb dX3_finding_19 rfl (lv_at hl 0 rfl) ?_
      refine lv_dup2_11 hx hb dX3_finding_20 rfl rfl ?_
      replace he := g_some he
      obtain ⟨hi3, he⟩ := he
      refine riald C hd (by decide) cC28 hi3 dX3_finding_21 ?_
      refine lv_iconst (v := 1) hx hb dX3_finding_22 (by decide) ?_
      refine lv_iadd hx hb dX3_finding_23 ?_
      replace he := g_some he
      obtain ⟨hi4, he⟩ := he
      replace he := bv_ex he
      obtain ⟨V5, e5, he⟩ := he
      refine riast (cell' := (cC G) V5) C hd (by decide) cC28 hi4 (cC28_w e5) (cC_ne e5) dX3_finding_24 (fun H locs hd => ?_)
      refine lv_iload_n hx hb dX3_finding_25 rfl (lv_at hl 2 rfl) ?_
      exact retIe (cf := (cC G)) C hr hlk hd he dX3_finding_26
set_option maxRecDepth 100000 in
set_option maxHeartbeats 4000000 in
theorem c_X3_fog (l : Launch) (G : Gd) (ks : Ks) (hJ : Inj 37 G.2.2) {a1 : Int32} {V V' : VV} {r : Int32} (he : f_X3_fog a1 V = some (r, V')) : MI l 37 G (XC G ks) yX3_fog cX3_fog 3 1 22 [.ref (G.2.2 24), .int a1] (cC G V) (cC G V') r := by
  refine walk_of (own := RX3) (by decide) rfl hJ (xs_C G ks) (Nat.le_of_ble_eq_true rfl) ?_
  intro p e s m below meth c C hr hlk ls hl hd
  have hl : lv_has ls 3 [(0, .ref (G.2.2 24)), (1, .int a1)] := hl
  obtain ⟨⟨hx, hb, hml, hown, hts⟩, -⟩ := id C
  unfold f_X3_fog at he
  refine lv_iload_n hx hb dX3_fog_0 rfl (lv_at hl 1 rfl) ?_
  refine lv_if_lt (tgt := 10) hx hb dX3_fog_1 (by decide) (fun hc1 => ?_) (fun hc1 => ?_)
  · replace he := i_t hc1 he
    refine lv_aload_n hx hb dX3_fog_10 rfl (lv_at hl 0 rfl) ?_
    refine lv_ldc hx hb hown (hts _ uw226) dX3_fog_11 ?_
    replace he := b_some he
    obtain ⟨⟨r2, V2⟩, h2, he⟩ := he
    refine kVI C hd hl.1 kw_X3_46 (by decide) cC24 rfl (c_X3_finding l G ks hJ h2) ⟨Nat.le_of_ble_eq_true rfl, Nat.le_of_ble_eq_true rfl⟩ rfl (rest := []) rfl (Nat.le_of_ble_eq_true rfl) dX3_fog_13 (fun H locs hd => ?_)
    exact retIe (cf := (cC G)) C hr hlk hd he dX3_fog_16
  · replace he := i_f hc1 he
    refine lv_iload_n hx hb dX3_fog_4 rfl (lv_at hl 1 rfl) ?_
    refine lv_ldc hx hb hown (hts _ uw225) dX3_fog_5 ?_
    refine lv_icmp_le (tgt := 17) hx hb dX3_fog_7 (by decide) (fun hc3 => ?_) (fun hc3 => ?_)
    · replace he := i_t hc3 he
      refine lv_aload_n hx hb dX3_fog_17 rfl (lv_at hl 0 rfl) ?_
      refine rgetf C hd (by decide) cC24 rfl tgX3 0 (by decide) uw199 rfl dX3_fog_18 ?_
      refine rgetf C hd (lt_moor (by decide)) (cC_moor (by decide)) rfl tgX0 1 (by decide) uw102 rfl dX3_fog_21 ?_
      refine lv_istore_n (lv' := [(2, .int _), (0, .ref _), (1, .int _)]) hx hb dX3_fog_24 rfl hl (by decide) rfl (fun ls hl => ?_)
      refine lv_aload_n hx hb dX3_fog_25 rfl (lv_at hl 1 rfl) ?_
      refine rgetf C hd (by decide) cC24 rfl tgX3 0 (by decide) uw199 rfl dX3_fog_26 ?_
      refine lv_iload_n hx hb dX3_fog_29 rfl (lv_at hl 2 rfl) ?_
      replace he := bv_ex he
      obtain ⟨V4, e4, he⟩ := he
      refine rputf (cell' := (cC G) V4) C hd (lt_moor (by decide)) (cC_moor (by decide)) rfl tgX0 tyX0 tyX0_ok nmX0 1 (by decide) uw102 rfl (tyX0_ok 1 (by decide)) rfl rfl (Nat.le_of_ble_eq_true rfl) (cC_moor_w (by decide) (by decide) e4) (cC_ne e4) dX3_fog_30 (fun H locs hd => ?_)
      refine lv_iload_n hx hb dX3_fog_33 rfl (lv_at hl 0 rfl) ?_
      exact retIe (cf := (cC G)) C hr hlk hd he dX3_fog_34
    · replace he := i_f hc3 he
      refine lv_aload_n hx hb dX3_fog_10 rfl (lv_at hl 0 rfl) ?_
      refine lv_ldc hx hb hown (hts _ uw226) dX3_fog_11 ?_
      replace he := b_some he
      obtain ⟨⟨r5, V5⟩, h5, he⟩ := he
      refine kVI C hd hl.1 kw_X3_46 (by decide) cC24 rfl (c_X3_finding l G ks hJ h5) ⟨Nat.le_of_ble_eq_true rfl, Nat.le_of_ble_eq_true rfl⟩ rfl (rest := []) rfl (Nat.le_of_ble_eq_true rfl) dX3_fog_13 (fun H locs hd => ?_)
      exact retIe (cf := (cC G)) C hr hlk hd he dX3_fog_16
set_option maxRecDepth 100000 in
set_option maxHeartbeats 4000000 in
theorem c_X3_isCell (l : Launch) (G : Gd) (ks : Ks) (hJ : Inj 37 G.2.2) {a1 : Int32} {V V' : VV} {r : Int32} (he : f_X3_isCell a1 V = some (r, V')) : MZ l 37 G (XC G ks) yX3_isCell cX3_isCell 1 0 0 [.int a1] (cC G V) (cC G V') r := by
  refine walk_of (own := RX3) (by decide) rfl hJ (xs_C G ks) (Nat.le_of_ble_eq_true rfl) ?_
  intro p e s m below meth c C hr hlk ls hl hd
  have hl : lv_has ls 1 [(0, .int a1)] := hl
  obtain ⟨⟨hx, hb, hml, hown, hts⟩, -⟩ := id C
  unfold f_X3_isCell at he
  refine lv_iload_n hx hb dX3_isCell_0 rfl (lv_at hl 0 rfl) ?_
  refine lv_if_lt (tgt := 14) hx hb dX3_isCell_1 (by decide) (fun hc1 => ?_) (fun hc1 => ?_)
  · replace he := i_t hc1 he
    refine lv_iconst (v := 0) hx hb dX3_isCell_14 (by decide) ?_
    exact retZe (cf := (cC G)) C hr hlk hd rfl he dX3_isCell_15
  · replace he := i_f hc1 he
    refine lv_iload_n hx hb dX3_isCell_4 rfl (lv_at hl 0 rfl) ?_
    refine lv_bipush (v := 36) hx hb dX3_isCell_5 (by decide) ?_
    refine lv_icmp_ge (tgt := 14) hx hb dX3_isCell_7 (by decide) (fun hc2 => ?_) (fun hc2 => ?_)
    · replace he := i_t hc2 he
      refine lv_iconst (v := 0) hx hb dX3_isCell_14 (by decide) ?_
      exact retZe (cf := (cC G)) C hr hlk hd rfl he dX3_isCell_15
    · replace he := i_f hc2 he
      refine lv_iconst (v := 1) hx hb dX3_isCell_10 (by decide) ?_
      refine lv_goto (tgt := 15) hx hb dX3_isCell_11 (by decide) ?_
      exact retZe (cf := (cC G)) C hr hlk hd rfl he dX3_isCell_15
set_option maxRecDepth 100000 in
set_option maxHeartbeats 4000000 in
theorem c_X3_village (l : Launch) (G : Gd) (ks : Ks) (hJ : Inj 37 G.2.2) {a1 : Int32} {V V' : VV} {r : Int32} (he : f_X3_village a1 V = some (r, V')) : MI l 37 G (XC G ks) yX3_village cX3_village 3 1 22 [.ref (G.2.2 24), .int a1] (cC G V) (cC G V') r := by
  refine walk_of (own := RX3) (by decide) rfl hJ (xs_C G ks) (Nat.le_of_ble_eq_true rfl) ?_
  intro p e s m below meth c C hr hlk ls hl hd
  have hl : lv_has ls 3 [(0, .ref (G.2.2 24)), (1, .int a1)] := hl
  obtain ⟨⟨hx, hb, hml, hown, hts⟩, -⟩ := id C
  unfold f_X3_village at he
  refine lv_iload_n hx hb dX3_village_0 rfl (lv_at hl 1 rfl) ?_
  replace he := b_some he
  obtain ⟨⟨r1, V1⟩, h1, he⟩ := he
  refine kSZ C hd hl.1 kw_X3_54 (c_X3_isCell l G ks hJ h1) ⟨Nat.le_of_ble_eq_true rfl, Nat.le_of_ble_eq_true rfl⟩ rfl (rest := []) rfl (Nat.le_of_ble_eq_true rfl) dX3_village_1 (fun H locs hz1 hd => ?_)
  refine lv_if_ne (tgt := 14) hx hb dX3_village_4 (by decide) (fun hc2 => ?_) (fun hc2 => ?_)
  · replace he := i_f hc2 he
    refine lv_aload_n hx hb dX3_village_14 rfl (lv_at hl 0 rfl) ?_
    refine rgetf C hd (by decide) cC24 rfl tgX3 0 (by decide) uw199 rfl dX3_village_15 ?_
    refine rgetf C hd (lt_moor (by decide)) (cC_moor (by decide)) rfl tgX0 2 (by decide) uw105 rfl dX3_village_18 ?_
    refine lv_istore_n (lv' := [(2, .int _), (0, .ref _), (1, .int _)]) hx hb dX3_village_21 rfl hl (by decide) rfl (fun ls hl => ?_)
    refine lv_aload_n hx hb dX3_village_22 rfl (lv_at hl 1 rfl) ?_
    refine rgetf C hd (by decide) cC24 rfl tgX3 0 (by decide) uw199 rfl dX3_village_23 ?_
    refine lv_iload_n hx hb dX3_village_26 rfl (lv_at hl 2 rfl) ?_
    replace he := bv_ex he
    obtain ⟨V3, e3, he⟩ := he
    refine rputf (cell' := (cC G) V3) C hd (lt_moor (by decide)) (cC_moor (by decide)) rfl tgX0 tyX0 tyX0_ok nmX0 2 (by decide) uw105 rfl (tyX0_ok 2 (by decide)) rfl rfl (Nat.le_of_ble_eq_true rfl) (cC_moor_w (by decide) (by decide) e3) (cC_ne e3) dX3_village_27 (fun H locs hd => ?_)
    refine lv_iload_n hx hb dX3_village_30 rfl (lv_at hl 0 rfl) ?_
    exact retIe (cf := (cC G)) C hr hlk hd he dX3_village_31
  · replace he := i_t hc2 he
    refine lv_aload_n hx hb dX3_village_7 rfl (lv_at hl 0 rfl) ?_
    refine lv_ldc hx hb hown (hts _ uw226) dX3_village_8 ?_
    replace he := b_some he
    obtain ⟨⟨r4, V4⟩, h4, he⟩ := he
    refine kVI C hd hl.1 kw_X3_46 (by decide) cC24 rfl (c_X3_finding l G ks hJ h4) ⟨Nat.le_of_ble_eq_true rfl, Nat.le_of_ble_eq_true rfl⟩ rfl (rest := []) rfl (Nat.le_of_ble_eq_true rfl) dX3_village_10 (fun H locs hd => ?_)
    exact retIe (cf := (cC G)) C hr hlk hd he dX3_village_13
set_option maxRecDepth 100000 in
set_option maxHeartbeats 4000000 in
theorem c_X0_setAt (l : Launch) (G : Gd) (ks : Ks) (hJ : Inj 37 G.2.2) {j : Nat} {a1 : Int32} (hj : j < 3) {V V' : VV} {r : Int32} (he : f_X0_setAt j a1 V = some (r, V')) : MI l 37 G (XC G ks) yX0_setAt cX0_setAt 4 0 0 [.ref (G.2.2 (8 * j)), .int a1] (cC G V) (cC G V') r := by
  refine walk_of (own := RX0) (by decide) rfl hJ (xs_C G ks) (Nat.le_of_ble_eq_true rfl) ?_
  intro p e s m below meth c C hr hlk ls hl hd
  have hl : lv_has ls 4 [(0, .ref (G.2.2 (8 * j))), (1, .int a1)] := hl
  obtain ⟨⟨hx, hb, hml, hown, hts⟩, -⟩ := id C
  have L4 : ∀ (fuel : Nat), ∀ (x1 : Int32) (x2 : Int32) (x3 : Int32) (V : VV) (H : Heap) (locs : List Loc) (ls : Array Slot), lv_has ls 4 [(0, .ref (G.2.2 (8 * j))), (1, .int x1), (2, .int x2), (3, .int x3)] → Dy 37 G (cC G V) s H locs → f_X0_setAt_L4 j fuel x1 x2 x3 V = some (r, V') → W p l e (rmF 0 0) s m ([.ref (G.2.2 (8 * j)), .int a1] : List Value).toArray below meth c H locs 0 0 (MQ below (QI 37 G (cC G V') (fun r' => r' = r)) ([.ref (G.2.2 (8 * j)), .int a1] : List Value).toArray s 0 0 (inA 37 G.2.2)) (F0 m 4 ls []) := by
    intro fuel
    induction fuel with
    | zero => intro x1 x2 x3 V H locs ls hl hd he; simp [f_X0_setAt_L4] at he
    | succ n ih4 =>
      intro x1 x2 x3 V H locs ls hl hd he
      rw [f_X0_setAt_L4] at he
      refine lv_iload_n hx hb dX0_setAt_4 rfl (lv_at hl 3 rfl) ?_
      refine lv_aload_n hx hb dX0_setAt_5 rfl (lv_at hl 0 rfl) ?_
      refine rgetf C hd (lt_moor hj) (cC_moor hj) rfl tgX0 3 (by decide) uw107 rfl dX0_setAt_6 ?_
      refine lv_icmp_ge (tgt := 34) hx hb dX0_setAt_9 (by decide) (fun hc1 => ?_) (fun hc1 => ?_)
      · replace he := i_t hc1 he
        refine lv_iload_n hx hb dX0_setAt_34 rfl (lv_at hl 2 rfl) ?_
        exact retIe (cf := (cC G)) C hr hlk hd he dX0_setAt_35
      · replace he := i_f hc1 he
        refine lv_aload_n hx hb dX0_setAt_12 rfl (lv_at hl 0 rfl) ?_
        refine rgetf C hd (lt_moor hj) (cC_moor hj) rfl tgX0 5 (by decide) uw111 rfl dX0_setAt_13 ?_
        refine lv_iload_n hx hb dX0_setAt_16 rfl (lv_at hl 3 rfl) ?_
        replace he := g_some he
        obtain ⟨hi2, he⟩ := he
        refine riald C hd (lt_marr hj 2 (by decide)) (cC_marr hj 2 (by decide) (by decide)) hi2 dX0_setAt_17 ?_
        refine lv_iload_n hx hb dX0_setAt_18 rfl (lv_at hl 1 rfl) ?_
        refine lv_icmp_ne (tgt := 28) hx hb dX0_setAt_19 (by decide) (fun hc3 => ?_) (fun hc3 => ?_)
        · replace he := i_f hc3 he
          refine lv_iinc (v := _ + 1) (lv' := [(3, .int _), (0, .ref _), (1, .int _), (2, .int _)]) hx hb dX0_setAt_28 hl (k := 3) rfl rfl (by decide) rfl (fun ls hl => ?_)
          refine lv_goto (tgt := 4) hx hb dX0_setAt_31 (by decide) ?_
          exact ih4 _ _ _ _ _ _ _ (lv_sub hl [1, 2, 3, 0] rfl) hd he
        · replace he := i_t hc3 he
          refine lv_iload_n hx hb dX0_setAt_22 rfl (lv_at hl 2 rfl) ?_
          refine lv_iconst (v := 1) hx hb dX0_setAt_23 (by decide) ?_
          refine lv_iload_n hx hb dX0_setAt_24 rfl (lv_at hl 3 rfl) ?_
          refine lv_ishl hx hb dX0_setAt_25 ?_
          refine lv_ior hx hb dX0_setAt_26 ?_
          refine lv_istore_n (lv' := [(2, .int _), (0, .ref _), (1, .int _), (3, .int _)]) hx hb dX0_setAt_27 rfl hl (by decide) rfl (fun ls hl => ?_)
          refine lv_iinc (v := _ + 1) (lv' := [(3, .int _), (2, .int _), (0, .ref _), (1, .int _)]) hx hb dX0_setAt_28 hl (k := 3) rfl rfl (by decide) rfl (fun ls hl => ?_)
          refine lv_goto (tgt := 4) hx hb dX0_setAt_31 (by decide) ?_
          exact ih4 _ _ _ _ _ _ _ (lv_sub hl [2, 3, 1, 0] rfl) hd he
  unfold f_X0_setAt at he
  refine lv_iconst (v := 0) hx hb dX0_setAt_0 (by decide) ?_
  refine lv_istore_n (lv' := [(2, .int _), (0, .ref _), (1, .int _)]) hx hb dX0_setAt_1 rfl hl (by decide) rfl (fun ls hl => ?_)
  refine lv_iconst (v := 0) hx hb dX0_setAt_2 (by decide) ?_
  refine lv_istore_n (lv' := [(3, .int _), (2, .int _), (0, .ref _), (1, .int _)]) hx hb dX0_setAt_3 rfl hl (by decide) rfl (fun ls hl => ?_)
  exact L4 200 _ _ _ _ _ _ _ (lv_sub hl [2, 3, 1, 0] rfl) hd he
set_option maxRecDepth 100000 in
set_option maxHeartbeats 4000000 in
theorem c_X3_at (l : Launch) (G : Gd) (ks : Ks) (hJ : Inj 37 G.2.2) {a1 : Int32} {V V' : VV} {r : Int32} (he : f_X3_at a1 V = some (r, V')) : MI l 37 G (XC G ks) yX3_at cX3_at 2 1 23 [.ref (G.2.2 24), .int a1] (cC G V) (cC G V') r := by
  refine walk_of (own := RX3) (by decide) rfl hJ (xs_C G ks) (Nat.le_of_ble_eq_true rfl) ?_
  intro p e s m below meth c C hr hlk ls hl hd
  have hl : lv_has ls 2 [(0, .ref (G.2.2 24)), (1, .int a1)] := hl
  obtain ⟨⟨hx, hb, hml, hown, hts⟩, -⟩ := id C
  unfold f_X3_at at he
  refine lv_iload_n hx hb dX3_at_0 rfl (lv_at hl 1 rfl) ?_
  replace he := b_some he
  obtain ⟨⟨r1, V1⟩, h1, he⟩ := he
  refine kSZ C hd hl.1 kw_X3_54 (c_X3_isCell l G ks hJ h1) ⟨Nat.le_of_ble_eq_true rfl, Nat.le_of_ble_eq_true rfl⟩ rfl (rest := []) rfl (Nat.le_of_ble_eq_true rfl) dX3_at_1 (fun H locs hz1 hd => ?_)
  refine lv_if_ne (tgt := 14) hx hb dX3_at_4 (by decide) (fun hc2 => ?_) (fun hc2 => ?_)
  · replace he := i_f hc2 he
    refine lv_aload_n hx hb dX3_at_14 rfl (lv_at hl 0 rfl) ?_
    refine rgetf C hd (by decide) cC24 rfl tgX3 0 (by decide) uw199 rfl dX3_at_15 ?_
    refine lv_iload_n hx hb dX3_at_18 rfl (lv_at hl 1 rfl) ?_
    replace he := b_some he
    obtain ⟨⟨r3, V3⟩, h3, he⟩ := he
    refine kVI C hd hl.1 kw_X3_61 (lt_moor (by decide)) (cC_moor (by decide)) rfl (c_X0_setAt l G ks hJ (by decide) h3) ⟨Nat.le_of_ble_eq_true rfl, Nat.le_of_ble_eq_true rfl⟩ rfl (rest := []) rfl (Nat.le_of_ble_eq_true rfl) dX3_at_19 (fun H locs hd => ?_)
    exact retIe (cf := (cC G)) C hr hlk hd he dX3_at_22
  · replace he := i_t hc2 he
    refine lv_aload_n hx hb dX3_at_7 rfl (lv_at hl 0 rfl) ?_
    refine lv_ldc hx hb hown (hts _ uw226) dX3_at_8 ?_
    replace he := b_some he
    obtain ⟨⟨r4, V4⟩, h4, he⟩ := he
    refine kVI C hd hl.1 kw_X3_46 (by decide) cC24 rfl (c_X3_finding l G ks hJ h4) ⟨Nat.le_of_ble_eq_true rfl, Nat.le_of_ble_eq_true rfl⟩ rfl (rest := []) rfl (Nat.le_of_ble_eq_true rfl) dX3_at_10 (fun H locs hd => ?_)
    exact retIe (cf := (cC G)) C hr hlk hd he dX3_at_13
set_option maxRecDepth 100000 in
set_option maxHeartbeats 4000000 in
theorem c_X3_isKind (l : Launch) (G : Gd) (ks : Ks) (hJ : Inj 37 G.2.2) {a1 : Int32} {V V' : VV} {r : Int32} (he : f_X3_isKind a1 V = some (r, V')) : MZ l 37 G (XC G ks) yX3_isKind cX3_isKind 1 0 0 [.int a1] (cC G V) (cC G V') r := by
  refine walk_of (own := RX3) (by decide) rfl hJ (xs_C G ks) (Nat.le_of_ble_eq_true rfl) ?_
  intro p e s m below meth c C hr hlk ls hl hd
  have hl : lv_has ls 1 [(0, .int a1)] := hl
  obtain ⟨⟨hx, hb, hml, hown, hts⟩, -⟩ := id C
  unfold f_X3_isKind at he
  refine lv_iload_n hx hb dX3_isKind_0 rfl (lv_at hl 0 rfl) ?_
  refine lv_if_lt (tgt := 14) hx hb dX3_isKind_1 (by decide) (fun hc1 => ?_) (fun hc1 => ?_)
  · replace he := i_t hc1 he
    refine lv_iconst (v := 0) hx hb dX3_isKind_14 (by decide) ?_
    exact retZe (cf := (cC G)) C hr hlk hd rfl he dX3_isKind_15
  · replace he := i_f hc1 he
    refine lv_iload_n hx hb dX3_isKind_4 rfl (lv_at hl 0 rfl) ?_
    refine lv_bipush (v := 6) hx hb dX3_isKind_5 (by decide) ?_
    refine lv_icmp_ge (tgt := 14) hx hb dX3_isKind_7 (by decide) (fun hc2 => ?_) (fun hc2 => ?_)
    · replace he := i_t hc2 he
      refine lv_iconst (v := 0) hx hb dX3_isKind_14 (by decide) ?_
      exact retZe (cf := (cC G)) C hr hlk hd rfl he dX3_isKind_15
    · replace he := i_f hc2 he
      refine lv_iconst (v := 1) hx hb dX3_isKind_10 (by decide) ?_
      refine lv_goto (tgt := 15) hx hb dX3_isKind_11 (by decide) ?_
      exact retZe (cf := (cC G)) C hr hlk hd rfl he dX3_isKind_15
set_option maxRecDepth 100000 in
set_option maxHeartbeats 4000000 in
theorem c_X0_hasRoom (l : Launch) (G : Gd) (ks : Ks) (hJ : Inj 37 G.2.2) {j : Nat} (hj : j < 3) {V V' : VV} {r : Int32} (he : f_X0_hasRoom j V = some (r, V')) : MZ l 37 G (XC G ks) yX0_hasRoom cX0_hasRoom 1 0 0 [.ref (G.2.2 (8 * j))] (cC G V) (cC G V') r := by
  refine walk_of (own := RX0) (by decide) rfl hJ (xs_C G ks) (Nat.le_of_ble_eq_true rfl) ?_
  intro p e s m below meth c C hr hlk ls hl hd
  have hl : lv_has ls 1 [(0, .ref (G.2.2 (8 * j)))] := hl
  obtain ⟨⟨hx, hb, hml, hown, hts⟩, -⟩ := id C
  unfold f_X0_hasRoom at he
  refine lv_aload_n hx hb dX0_hasRoom_0 rfl (lv_at hl 0 rfl) ?_
  refine rgetf C hd (lt_moor hj) (cC_moor hj) rfl tgX0 3 (by decide) uw107 rfl dX0_hasRoom_1 ?_
  refine lv_bipush (v := 8) hx hb dX0_hasRoom_4 (by decide) ?_
  refine lv_icmp_ge (tgt := 13) hx hb dX0_hasRoom_6 (by decide) (fun hc1 => ?_) (fun hc1 => ?_)
  · replace he := i_t hc1 he
    refine lv_iconst (v := 0) hx hb dX0_hasRoom_13 (by decide) ?_
    exact retZe (cf := (cC G)) C hr hlk hd rfl he dX0_hasRoom_14
  · replace he := i_f hc1 he
    refine lv_iconst (v := 1) hx hb dX0_hasRoom_9 (by decide) ?_
    refine lv_goto (tgt := 14) hx hb dX0_hasRoom_10 (by decide) ?_
    exact retZe (cf := (cC G)) C hr hlk hd rfl he dX0_hasRoom_14
set_option maxRecDepth 100000 in
set_option maxHeartbeats 4000000 in
theorem c_X0_come (l : Launch) (G : Gd) (ks : Ks) (hJ : Inj 37 G.2.2) {j : Nat} {a1 : Int32} {a2 : Int32} (hj : j < 3) {V V' : VV} {r : Int32} (he : f_X0_come j a1 a2 V = some (r, V')) : MI l 37 G (XC G ks) yX0_come cX0_come 4 1 20 [.ref (G.2.2 (8 * j)), .int a1, .int a2] (cC G V) (cC G V') r := by
  refine walk_of (own := RX0) (by decide) rfl hJ (xs_C G ks) (Nat.le_of_ble_eq_true rfl) ?_
  intro p e s m below meth c C hr hlk ls hl hd
  have hl : lv_has ls 4 [(0, .ref (G.2.2 (8 * j))), (1, .int a1), (2, .int a2)] := hl
  obtain ⟨⟨hx, hb, hml, hown, hts⟩, -⟩ := id C
  unfold f_X0_come at he
  refine lv_aload_n hx hb dX0_come_0 rfl (lv_at hl 0 rfl) ?_
  replace he := b_some he
  obtain ⟨⟨r1, V1⟩, h1, he⟩ := he
  refine kVZ C hd hl.1 kw_X0_52 (lt_moor hj) (cC_moor hj) rfl (c_X0_hasRoom l G ks hJ hj h1) ⟨Nat.le_of_ble_eq_true rfl, Nat.le_of_ble_eq_true rfl⟩ rfl (rest := []) rfl (Nat.le_of_ble_eq_true rfl) dX0_come_1 (fun H locs hz1 hd => ?_)
  refine lv_if_ne (tgt := 9) hx hb dX0_come_4 (by decide) (fun hc2 => ?_) (fun hc2 => ?_)
  · replace he := i_f hc2 he
    refine lv_aload_n hx hb dX0_come_9 rfl (lv_at hl 0 rfl) ?_
    refine rgetf C hd (lt_moor hj) (cC_moor hj) rfl tgX0 3 (by decide) uw107 rfl dX0_come_10 ?_
    refine lv_istore_n (lv' := [(3, .int _), (0, .ref _), (1, .int _), (2, .int _)]) hx hb dX0_come_13 rfl hl (by decide) rfl (fun ls hl => ?_)
    refine lv_aload_n hx hb dX0_come_14 rfl (lv_at hl 1 rfl) ?_
    refine rgetf C hd (lt_moor hj) (cC_moor hj) rfl tgX0 4 (by decide) uw109 rfl dX0_come_15 ?_
    refine lv_iload_n hx hb dX0_come_18 rfl (lv_at hl 0 rfl) ?_
    refine lv_iload_n hx hb dX0_come_19 rfl (lv_at hl 2 rfl) ?_
    replace he := g_some he
    obtain ⟨hi3, he⟩ := he
    replace he := bv_ex he
    obtain ⟨V4, e4, he⟩ := he
    refine riast (cell' := (cC G) V4) C hd (lt_marr hj 1 (by decide)) (cC_marr hj 1 (by decide) (by decide)) hi3 (cC_marr_w hj 1 (by decide) (by decide) e4) (cC_ne e4) dX0_come_20 (fun H locs hd => ?_)
    refine lv_aload_n hx hb dX0_come_21 rfl (lv_at hl 1 rfl) ?_
    refine rgetf C hd (lt_moor hj) (cC_moor hj) rfl tgX0 5 (by decide) uw111 rfl dX0_come_22 ?_
    refine lv_iload_n hx hb dX0_come_25 rfl (lv_at hl 0 rfl) ?_
    refine lv_iload_n hx hb dX0_come_26 rfl (lv_at hl 3 rfl) ?_
    replace he := g_some he
    obtain ⟨hi5, he⟩ := he
    replace he := bv_ex he
    obtain ⟨V6, e6, he⟩ := he
    refine riast (cell' := (cC G) V6) C hd (lt_marr hj 2 (by decide)) (cC_marr hj 2 (by decide) (by decide)) hi5 (cC_marr_w hj 2 (by decide) (by decide) e6) (cC_ne e6) dX0_come_27 (fun H locs hd => ?_)
    refine lv_aload_n hx hb dX0_come_28 rfl (lv_at hl 1 rfl) ?_
    refine rgetf C hd (lt_moor hj) (cC_moor hj) rfl tgX0 6 (by decide) uw113 rfl dX0_come_29 ?_
    refine lv_iload_n hx hb dX0_come_32 rfl (lv_at hl 0 rfl) ?_
    refine lv_iload_n hx hb dX0_come_33 rfl (lv_at hl 3 rfl) ?_
    replace he := g_some he
    obtain ⟨hi7, he⟩ := he
    replace he := bv_ex he
    obtain ⟨V8, e8, he⟩ := he
    refine riast (cell' := (cC G) V8) C hd (lt_marr hj 3 (by decide)) (cC_marr hj 3 (by decide) (by decide)) hi7 (cC_marr_w hj 3 (by decide) (by decide) e8) (cC_ne e8) dX0_come_34 (fun H locs hd => ?_)
    refine lv_aload_n hx hb dX0_come_35 rfl (lv_at hl 1 rfl) ?_
    refine rgetf C hd (lt_moor hj) (cC_moor hj) rfl tgX0 7 (by decide) uw115 rfl dX0_come_36 ?_
    refine lv_iload_n hx hb dX0_come_39 rfl (lv_at hl 0 rfl) ?_
    refine lv_iconst (v := 0) hx hb dX0_come_40 (by decide) ?_
    replace he := g_some he
    obtain ⟨hi9, he⟩ := he
    replace he := bv_ex he
    obtain ⟨V10, e10, he⟩ := he
    refine riast (cell' := (cC G) V10) C hd (lt_marr hj 4 (by decide)) (cC_marr hj 4 (by decide) (by decide)) hi9 (cC_marr_w hj 4 (by decide) (by decide) e10) (cC_ne e10) dX0_come_41 (fun H locs hd => ?_)
    refine lv_aload_n hx hb dX0_come_42 rfl (lv_at hl 1 rfl) ?_
    refine rgetf C hd (lt_moor hj) (cC_moor hj) rfl tgX0 8 (by decide) uw118 rfl dX0_come_43 ?_
    refine lv_iload_n hx hb dX0_come_46 rfl (lv_at hl 0 rfl) ?_
    refine lv_iconst (v := 0) hx hb dX0_come_47 (by decide) ?_
    replace he := g_some he
    obtain ⟨hi11, he⟩ := he
    replace he := bv_ex he
    obtain ⟨V12, e12, he⟩ := he
    refine riast (cell' := (cC G) V12) C hd (lt_marr hj 5 (by decide)) (cC_marr hj 5 (by decide) (by decide)) hi11 (cC_marr_w hj 5 (by decide) (by decide) e12) (cC_ne e12) dX0_come_48 (fun H locs hd => ?_)
    refine lv_aload_n hx hb dX0_come_49 rfl (lv_at hl 1 rfl) ?_
    refine rgetf C hd (lt_moor hj) (cC_moor hj) rfl tgX0 9 (by decide) uw121 rfl dX0_come_50 ?_
    refine lv_iload_n hx hb dX0_come_53 rfl (lv_at hl 0 rfl) ?_
    refine lv_iconst (v := (-1)) hx hb dX0_come_54 (by decide) ?_
    replace he := g_some he
    obtain ⟨hi13, he⟩ := he
    replace he := bv_ex he
    obtain ⟨V14, e14, he⟩ := he
    refine riast (cell' := (cC G) V14) C hd (lt_marr hj 6 (by decide)) (cC_marr hj 6 (by decide) (by decide)) hi13 (cC_marr_w hj 6 (by decide) (by decide) e14) (cC_ne e14) dX0_come_55 (fun H locs hd => ?_)
    refine lv_aload_n hx hb dX0_come_56 rfl (lv_at hl 1 rfl) ?_
    refine rgetf C hd (lt_moor hj) (cC_moor hj) rfl tgX0 10 (by decide) uw123 rfl dX0_come_57 ?_
    refine lv_iload_n hx hb dX0_come_60 rfl (lv_at hl 0 rfl) ?_
    refine lv_iconst (v := (-1)) hx hb dX0_come_61 (by decide) ?_
    replace he := g_some he
    obtain ⟨hi15, he⟩ := he
    replace he := bv_ex he
    obtain ⟨V16, e16, he⟩ := he
    refine riast (cell' := (cC G) V16) C hd (lt_marr hj 7 (by decide)) (cC_marr hj 7 (by decide) (by decide)) hi15 (cC_marr_w hj 7 (by decide) (by decide) e16) (cC_ne e16) dX0_come_62 (fun H locs hd => ?_)
    refine lv_aload_n hx hb dX0_come_63 rfl (lv_at hl 1 rfl) ?_
    refine lv_dup hx hb dX0_come_64 rfl ?_
    refine rgetf C hd (lt_moor hj) (cC_moor hj) rfl tgX0 3 (by decide) uw107 rfl dX0_come_65 ?_
    refine lv_iconst (v := 1) hx hb dX0_come_68 (by decide) ?_
    refine lv_iadd hx hb dX0_come_69 ?_
    replace he := bv_ex he
    obtain ⟨V17, e17, he⟩ := he
    refine rputf (cell' := (cC G) V17) C hd (lt_moor hj) (cC_moor hj) rfl tgX0 tyX0 tyX0_ok nmX0 3 (by decide) uw107 rfl (tyX0_ok 3 (by decide)) rfl rfl (Nat.le_of_ble_eq_true rfl) (cC_moor_w hj (by decide) e17) (cC_ne e17) dX0_come_70 (fun H locs hd => ?_)
    refine lv_iload_n hx hb dX0_come_73 rfl (lv_at hl 0 rfl) ?_
    exact retIe (cf := (cC G)) C hr hlk hd he dX0_come_74
  · replace he := i_t hc2 he
    refine lv_iconst (v := (-1)) hx hb dX0_come_7 (by decide) ?_
    exact retIe (cf := (cC G)) C hr hlk hd he dX0_come_8
set_option maxRecDepth 100000 in
set_option maxHeartbeats 4000000 in
theorem c_X3_walker (l : Launch) (G : Gd) (ks : Ks) (hJ : Inj 37 G.2.2) {a1 : Int32} {a2 : Int32} {V V' : VV} {r : Int32} (he : f_X3_walker a1 a2 V = some (r, V')) : MI l 37 G (XC G ks) yX3_walker cX3_walker 3 2 43 [.ref (G.2.2 24), .int a1, .int a2] (cC G V) (cC G V') r := by
  refine walk_of (own := RX3) (by decide) rfl hJ (xs_C G ks) (Nat.le_of_ble_eq_true rfl) ?_
  intro p e s m below meth c C hr hlk ls hl hd
  have hl : lv_has ls 3 [(0, .ref (G.2.2 24)), (1, .int a1), (2, .int a2)] := hl
  obtain ⟨⟨hx, hb, hml, hown, hts⟩, -⟩ := id C
  unfold f_X3_walker at he
  refine lv_iload_n hx hb dX3_walker_0 rfl (lv_at hl 1 rfl) ?_
  replace he := b_some he
  obtain ⟨⟨r1, V1⟩, h1, he⟩ := he
  refine kSZ C hd hl.1 kw_X3_64 (c_X3_isKind l G ks hJ h1) ⟨Nat.le_of_ble_eq_true rfl, Nat.le_of_ble_eq_true rfl⟩ rfl (rest := []) rfl (Nat.le_of_ble_eq_true rfl) dX3_walker_1 (fun H locs hz1 hd => ?_)
  refine lv_if_eq (tgt := 14) hx hb dX3_walker_4 (by decide) (fun hc2 => ?_) (fun hc2 => ?_)
  · replace he := i_t hc2 he
    refine lv_aload_n hx hb dX3_walker_14 rfl (lv_at hl 0 rfl) ?_
    refine lv_ldc hx hb hown (hts _ uw226) dX3_walker_15 ?_
    replace he := b_some he
    obtain ⟨⟨r3, V3⟩, h3, he⟩ := he
    refine kVI C hd hl.1 kw_X3_46 (by decide) cC24 rfl (c_X3_finding l G ks hJ h3) ⟨Nat.le_of_ble_eq_true rfl, Nat.le_of_ble_eq_true rfl⟩ rfl (rest := []) rfl (Nat.le_of_ble_eq_true rfl) dX3_walker_17 (fun H locs hd => ?_)
    exact retIe (cf := (cC G)) C hr hlk hd he dX3_walker_20
  · replace he := i_f hc2 he
    refine lv_iload_n hx hb dX3_walker_7 rfl (lv_at hl 2 rfl) ?_
    replace he := b_some he
    obtain ⟨⟨r4, V4⟩, h4, he⟩ := he
    refine kSZ C hd hl.1 kw_X3_54 (c_X3_isCell l G ks hJ h4) ⟨Nat.le_of_ble_eq_true rfl, Nat.le_of_ble_eq_true rfl⟩ rfl (rest := []) rfl (Nat.le_of_ble_eq_true rfl) dX3_walker_8 (fun H locs hz4 hd => ?_)
    refine lv_if_ne (tgt := 21) hx hb dX3_walker_11 (by decide) (fun hc5 => ?_) (fun hc5 => ?_)
    · replace he := i_f hc5 he
      refine lv_aload_n hx hb dX3_walker_21 rfl (lv_at hl 0 rfl) ?_
      refine rgetf C hd (by decide) cC24 rfl tgX3 0 (by decide) uw199 rfl dX3_walker_22 ?_
      replace he := b_some he
      obtain ⟨⟨r6, V6⟩, h6, he⟩ := he
      refine kVZ C hd hl.1 kw_X3_67 (lt_moor (by decide)) (cC_moor (by decide)) rfl (c_X0_hasRoom l G ks hJ (by decide) h6) ⟨Nat.le_of_ble_eq_true rfl, Nat.le_of_ble_eq_true rfl⟩ rfl (rest := []) rfl (Nat.le_of_ble_eq_true rfl) dX3_walker_25 (fun H locs hz6 hd => ?_)
      refine lv_if_ne (tgt := 38) hx hb dX3_walker_28 (by decide) (fun hc7 => ?_) (fun hc7 => ?_)
      · replace he := i_f hc7 he
        refine lv_aload_n hx hb dX3_walker_38 rfl (lv_at hl 0 rfl) ?_
        refine rgetf C hd (by decide) cC24 rfl tgX3 0 (by decide) uw199 rfl dX3_walker_39 ?_
        refine lv_iload_n hx hb dX3_walker_42 rfl (lv_at hl 1 rfl) ?_
        refine lv_iload_n hx hb dX3_walker_43 rfl (lv_at hl 2 rfl) ?_
        replace he := b_some he
        obtain ⟨⟨r8, V8⟩, h8, he⟩ := he
        refine kVI C hd hl.1 kw_X3_72 (lt_moor (by decide)) (cC_moor (by decide)) rfl (c_X0_come l G ks hJ (by decide) h8) ⟨Nat.le_of_ble_eq_true rfl, Nat.le_of_ble_eq_true rfl⟩ rfl (rest := []) rfl (Nat.le_of_ble_eq_true rfl) dX3_walker_44 (fun H locs hd => ?_)
        exact retIe (cf := (cC G)) C hr hlk hd he dX3_walker_47
      · replace he := i_t hc7 he
        refine lv_aload_n hx hb dX3_walker_31 rfl (lv_at hl 0 rfl) ?_
        refine lv_ldc hx hb hown (hts _ uw257) dX3_walker_32 ?_
        replace he := b_some he
        obtain ⟨⟨r9, V9⟩, h9, he⟩ := he
        refine kVI C hd hl.1 kw_X3_46 (by decide) cC24 rfl (c_X3_finding l G ks hJ h9) ⟨Nat.le_of_ble_eq_true rfl, Nat.le_of_ble_eq_true rfl⟩ rfl (rest := []) rfl (Nat.le_of_ble_eq_true rfl) dX3_walker_34 (fun H locs hd => ?_)
        exact retIe (cf := (cC G)) C hr hlk hd he dX3_walker_37
    · replace he := i_t hc5 he
      refine lv_aload_n hx hb dX3_walker_14 rfl (lv_at hl 0 rfl) ?_
      refine lv_ldc hx hb hown (hts _ uw226) dX3_walker_15 ?_
      replace he := b_some he
      obtain ⟨⟨r10, V10⟩, h10, he⟩ := he
      refine kVI C hd hl.1 kw_X3_46 (by decide) cC24 rfl (c_X3_finding l G ks hJ h10) ⟨Nat.le_of_ble_eq_true rfl, Nat.le_of_ble_eq_true rfl⟩ rfl (rest := []) rfl (Nat.le_of_ble_eq_true rfl) dX3_walker_17 (fun H locs hd => ?_)
      exact retIe (cf := (cC G)) C hr hlk hd he dX3_walker_20
set_option maxRecDepth 100000 in
set_option maxHeartbeats 4000000 in
theorem c_X0_has (l : Launch) (G : Gd) (ks : Ks) (hJ : Inj 37 G.2.2) {j : Nat} {a1 : Int32} (hj : j < 3) {V V' : VV} {r : Int32} (he : f_X0_has j a1 V = some (r, V')) : MZ l 37 G (XC G ks) yX0_has cX0_has 2 0 0 [.ref (G.2.2 (8 * j)), .int a1] (cC G V) (cC G V') r := by
  refine walk_of (own := RX0) (by decide) rfl hJ (xs_C G ks) (Nat.le_of_ble_eq_true rfl) ?_
  intro p e s m below meth c C hr hlk ls hl hd
  have hl : lv_has ls 2 [(0, .ref (G.2.2 (8 * j))), (1, .int a1)] := hl
  obtain ⟨⟨hx, hb, hml, hown, hts⟩, -⟩ := id C
  unfold f_X0_has at he
  refine lv_iload_n hx hb dX0_has_0 rfl (lv_at hl 1 rfl) ?_
  refine lv_if_lt (tgt := 16) hx hb dX0_has_1 (by decide) (fun hc1 => ?_) (fun hc1 => ?_)
  · replace he := i_t hc1 he
    refine lv_iconst (v := 0) hx hb dX0_has_16 (by decide) ?_
    exact retZe (cf := (cC G)) C hr hlk hd rfl he dX0_has_17
  · replace he := i_f hc1 he
    refine lv_iload_n hx hb dX0_has_4 rfl (lv_at hl 1 rfl) ?_
    refine lv_aload_n hx hb dX0_has_5 rfl (lv_at hl 0 rfl) ?_
    refine rgetf C hd (lt_moor hj) (cC_moor hj) rfl tgX0 3 (by decide) uw107 rfl dX0_has_6 ?_
    refine lv_icmp_ge (tgt := 16) hx hb dX0_has_9 (by decide) (fun hc2 => ?_) (fun hc2 => ?_)
    · replace he := i_t hc2 he
      refine lv_iconst (v := 0) hx hb dX0_has_16 (by decide) ?_
      exact retZe (cf := (cC G)) C hr hlk hd rfl he dX0_has_17
    · replace he := i_f hc2 he
      refine lv_iconst (v := 1) hx hb dX0_has_12 (by decide) ?_
      refine lv_goto (tgt := 17) hx hb dX0_has_13 (by decide) ?_
      exact retZe (cf := (cC G)) C hr hlk hd rfl he dX0_has_17
set_option maxRecDepth 100000 in
set_option maxHeartbeats 4000000 in
theorem c_X3_widowSteps (l : Launch) (G : Gd) (ks : Ks) (hJ : Inj 37 G.2.2) {a1 : Int32} {V V' : VV} {r : Int32} (he : f_X3_widowSteps a1 V = some (r, V')) : MI l 37 G (XC G ks) yX3_widowSteps cX3_widowSteps 1 0 0 [.int a1] (cC G V) (cC G V') r := by
  refine walk_of (own := RX3) (by decide) rfl hJ (xs_C G ks) (Nat.le_of_ble_eq_true rfl) ?_
  intro p e s m below meth c C hr hlk ls hl hd
  have hl : lv_has ls 1 [(0, .int a1)] := hl
  obtain ⟨⟨hx, hb, hml, hown, hts⟩, -⟩ := id C
  unfold f_X3_widowSteps at he
  refine lv_iload_n hx hb dX3_widowSteps_0 rfl (lv_at hl 0 rfl) ?_
  refine lv_iconst (v := 2) hx hb dX3_widowSteps_1 (by decide) ?_
  refine lv_irem hx hb dX3_widowSteps_2 (by decide) ?_
  refine lv_if_ne (tgt := 10) hx hb dX3_widowSteps_3 (by decide) (fun hc1 => ?_) (fun hc1 => ?_)
  · replace he := i_f hc1 he
    refine lv_iconst (v := 0) hx hb dX3_widowSteps_10 (by decide) ?_
    exact retIe (cf := (cC G)) C hr hlk hd he dX3_widowSteps_11
  · replace he := i_t hc1 he
    refine lv_iconst (v := 1) hx hb dX3_widowSteps_6 (by decide) ?_
    refine lv_goto (tgt := 11) hx hb dX3_widowSteps_7 (by decide) ?_
    exact retIe (cf := (cC G)) C hr hlk hd he dX3_widowSteps_11
set_option maxRecDepth 100000 in
set_option maxHeartbeats 4000000 in
theorem c_X3_everyThird (l : Launch) (G : Gd) (ks : Ks) (hJ : Inj 37 G.2.2) {a1 : Int32} {V V' : VV} {r : Int32} (he : f_X3_everyThird a1 V = some (r, V')) : MI l 37 G (XC G ks) yX3_everyThird cX3_everyThird 1 0 0 [.int a1] (cC G V) (cC G V') r := by
  refine walk_of (own := RX3) (by decide) rfl hJ (xs_C G ks) (Nat.le_of_ble_eq_true rfl) ?_
  intro p e s m below meth c C hr hlk ls hl hd
  have hl : lv_has ls 1 [(0, .int a1)] := hl
  obtain ⟨⟨hx, hb, hml, hown, hts⟩, -⟩ := id C
  unfold f_X3_everyThird at he
  refine lv_iload_n hx hb dX3_everyThird_0 rfl (lv_at hl 0 rfl) ?_
  refine lv_iconst (v := 3) hx hb dX3_everyThird_1 (by decide) ?_
  refine lv_irem hx hb dX3_everyThird_2 (by decide) ?_
  refine lv_if_ne (tgt := 10) hx hb dX3_everyThird_3 (by decide) (fun hc1 => ?_) (fun hc1 => ?_)
  · replace he := i_f hc1 he
    refine lv_iconst (v := 0) hx hb dX3_everyThird_10 (by decide) ?_
    exact retIe (cf := (cC G)) C hr hlk hd he dX3_everyThird_11
  · replace he := i_t hc1 he
    refine lv_iconst (v := 1) hx hb dX3_everyThird_6 (by decide) ?_
    refine lv_goto (tgt := 11) hx hb dX3_everyThird_7 (by decide) ?_
    exact retIe (cf := (cC G)) C hr hlk hd he dX3_everyThird_11
set_option maxRecDepth 100000 in
set_option maxHeartbeats 4000000 in
theorem c_X3_stepsOf (l : Launch) (G : Gd) (ks : Ks) (hJ : Inj 37 G.2.2) {a1 : Int32} {a2 : Int32} {V V' : VV} {r : Int32} (he : f_X3_stepsOf a1 a2 V = some (r, V')) : MI l 37 G (XC G ks) yX3_stepsOf cX3_stepsOf 2 1 20 [.int a1, .int a2] (cC G V) (cC G V') r := by
  refine walk_of (own := RX3) (by decide) rfl hJ (xs_C G ks) (Nat.le_of_ble_eq_true rfl) ?_
  intro p e s m below meth c C hr hlk ls hl hd
  have hl : lv_has ls 2 [(0, .int a1), (1, .int a2)] := hl
  obtain ⟨⟨hx, hb, hml, hown, hts⟩, -⟩ := id C
  unfold f_X3_stepsOf at he
  refine lv_iload_n hx hb dX3_stepsOf_0 rfl (lv_at hl 0 rfl) ?_
  replace he := ite_cases he
  rcases he with ⟨hc1, he⟩ | ⟨hc1, he⟩
  · refine rtabIn (k := 2) (off := 31) (tgt := 32) hx hb dX3_stepsOf_1 hc1 (by decide) (by decide) rfl (by decide) ?_
    refine lv_iload_n hx hb dX3_stepsOf_32 rfl (lv_at hl 1 rfl) ?_
    replace he := b_some he
    obtain ⟨⟨r2, V2⟩, h2, he⟩ := he
    refine kSI C hd hl.1 kw_X3_248 (c_X3_widowSteps l G ks hJ h2) ⟨Nat.le_of_ble_eq_true rfl, Nat.le_of_ble_eq_true rfl⟩ rfl (rest := []) rfl (Nat.le_of_ble_eq_true rfl) dX3_stepsOf_33 (fun H locs hd => ?_)
    exact retIe (cf := (cC G)) C hr hlk hd he dX3_stepsOf_36
  · replace he := ite_cases he
    rcases he with ⟨hc3, he⟩ | ⟨hc3, he⟩
    · refine rtabIn (k := 3) (off := 36) (tgt := 37) hx hb dX3_stepsOf_1 hc3 (by decide) (by decide) rfl (by decide) ?_
      refine lv_iconst (v := 0) hx hb dX3_stepsOf_37 (by decide) ?_
      exact retIe (cf := (cC G)) C hr hlk hd he dX3_stepsOf_38
    · replace he := ite_cases he
      rcases he with ⟨hc4, he⟩ | ⟨hc4, he⟩
      · refine rtabIn (k := 4) (off := 38) (tgt := 39) hx hb dX3_stepsOf_1 hc4 (by decide) (by decide) rfl (by decide) ?_
        refine lv_iconst (v := 2) hx hb dX3_stepsOf_39 (by decide) ?_
        exact retIe (cf := (cC G)) C hr hlk hd he dX3_stepsOf_40
      · replace he := ite_cases he
        rcases he with ⟨hc5, he⟩ | ⟨hc5, he⟩
        · refine rtabIn (k := 5) (off := 40) (tgt := 41) hx hb dX3_stepsOf_1 hc5 (by decide) (by decide) rfl (by decide) ?_
          refine lv_iload_n hx hb dX3_stepsOf_41 rfl (lv_at hl 1 rfl) ?_
          replace he := b_some he
          obtain ⟨⟨r6, V6⟩, h6, he⟩ := he
          refine kSI C hd hl.1 kw_X3_248 (c_X3_widowSteps l G ks hJ h6) ⟨Nat.le_of_ble_eq_true rfl, Nat.le_of_ble_eq_true rfl⟩ rfl (rest := []) rfl (Nat.le_of_ble_eq_true rfl) dX3_stepsOf_42 (fun H locs hd => ?_)
          refine lv_iload_n hx hb dX3_stepsOf_45 rfl (lv_at hl 1 rfl) ?_
          replace he := b_some he
          obtain ⟨⟨r7, V7⟩, h7, he⟩ := he
          refine kSI C hd hl.1 kw_X3_251 (c_X3_everyThird l G ks hJ h7) ⟨Nat.le_of_ble_eq_true rfl, Nat.le_of_ble_eq_true rfl⟩ rfl (rest := [.int _]) rfl (Nat.le_of_ble_eq_true rfl) dX3_stepsOf_46 (fun H locs hd => ?_)
          refine lv_iadd hx hb dX3_stepsOf_49 ?_
          exact retIe (cf := (cC G)) C hr hlk hd he dX3_stepsOf_50
        · refine lv_tableOut (tgt := 51) hx hb dX3_stepsOf_1 (tbl_out (fun k k1 k2 => by rcases (show k = 2 ∨ k = 3 ∨ k = 4 ∨ k = 5 by omega) with rfl | rfl | rfl | rfl <;> first | exact hc1 | exact hc3 | exact hc4 | exact hc5)) (by decide) ?_
          refine lv_iconst (v := 1) hx hb dX3_stepsOf_51 (by decide) ?_
          exact retIe (cf := (cC G)) C hr hlk hd he dX3_stepsOf_52
set_option maxRecDepth 100000 in
set_option maxHeartbeats 4000000 in
theorem c_X3_turnsOf (l : Launch) (G : Gd) (ks : Ks) (hJ : Inj 37 G.2.2) {a1 : Int32} {a2 : Int32} {V V' : VV} {r : Int32} (he : f_X3_turnsOf a1 a2 V = some (r, V')) : MI l 37 G (XC G ks) yX3_turnsOf cX3_turnsOf 2 1 20 [.int a1, .int a2] (cC G V) (cC G V') r := by
  refine walk_of (own := RX3) (by decide) rfl hJ (xs_C G ks) (Nat.le_of_ble_eq_true rfl) ?_
  intro p e s m below meth c C hr hlk ls hl hd
  have hl : lv_has ls 2 [(0, .int a1), (1, .int a2)] := hl
  obtain ⟨⟨hx, hb, hml, hown, hts⟩, -⟩ := id C
  unfold f_X3_turnsOf at he
  refine lv_iload_n hx hb dX3_turnsOf_0 rfl (lv_at hl 0 rfl) ?_
  replace he := ite_cases he
  rcases he with ⟨hc1, he⟩ | ⟨hc1, he⟩
  · refine rtabIn (k := 1) (off := 35) (tgt := 36) hx hb dX3_turnsOf_1 hc1 (by decide) (by decide) rfl (by decide) ?_
    refine lv_iload_n hx hb dX3_turnsOf_36 rfl (lv_at hl 1 rfl) ?_
    replace he := b_some he
    obtain ⟨⟨r2, V2⟩, h2, he⟩ := he
    refine kSI C hd hl.1 kw_X3_251 (c_X3_everyThird l G ks hJ h2) ⟨Nat.le_of_ble_eq_true rfl, Nat.le_of_ble_eq_true rfl⟩ rfl (rest := []) rfl (Nat.le_of_ble_eq_true rfl) dX3_turnsOf_37 (fun H locs hd => ?_)
    exact retIe (cf := (cC G)) C hr hlk hd he dX3_turnsOf_40
  · replace he := ite_cases he
    rcases he with ⟨hc3, he⟩ | ⟨hc3, he⟩
    · refine rtabIn (k := 2) (off := 55) (tgt := 56) hx hb dX3_turnsOf_1 hc3 (by decide) (by decide) rfl (by decide) ?_
      refine lv_iconst (v := 0) hx hb dX3_turnsOf_56 (by decide) ?_
      exact retIe (cf := (cC G)) C hr hlk hd he dX3_turnsOf_57
    · replace he := ite_cases he
      rcases he with ⟨hc4, he⟩ | ⟨hc4, he⟩
      · refine rtabIn (k := 3) (off := 40) (tgt := 41) hx hb dX3_turnsOf_1 hc4 (by decide) (by decide) rfl (by decide) ?_
        refine lv_iconst (v := 1) hx hb dX3_turnsOf_41 (by decide) ?_
        exact retIe (cf := (cC G)) C hr hlk hd he dX3_turnsOf_42
      · replace he := ite_cases he
        rcases he with ⟨hc5, he⟩ | ⟨hc5, he⟩
        · refine rtabIn (k := 4) (off := 35) (tgt := 36) hx hb dX3_turnsOf_1 hc5 (by decide) (by decide) rfl (by decide) ?_
          refine lv_iload_n hx hb dX3_turnsOf_36 rfl (lv_at hl 1 rfl) ?_
          replace he := b_some he
          obtain ⟨⟨r6, V6⟩, h6, he⟩ := he
          refine kSI C hd hl.1 kw_X3_251 (c_X3_everyThird l G ks hJ h6) ⟨Nat.le_of_ble_eq_true rfl, Nat.le_of_ble_eq_true rfl⟩ rfl (rest := []) rfl (Nat.le_of_ble_eq_true rfl) dX3_turnsOf_37 (fun H locs hd => ?_)
          exact retIe (cf := (cC G)) C hr hlk hd he dX3_turnsOf_40
        · replace he := ite_cases he
          rcases he with ⟨hc7, he⟩ | ⟨hc7, he⟩
          · refine rtabIn (k := 5) (off := 42) (tgt := 43) hx hb dX3_turnsOf_1 hc7 (by decide) (by decide) rfl (by decide) ?_
            refine lv_iload_n hx hb dX3_turnsOf_43 rfl (lv_at hl 1 rfl) ?_
            refine lv_iconst (v := 4) hx hb dX3_turnsOf_44 (by decide) ?_
            refine lv_irem hx hb dX3_turnsOf_45 (by decide) ?_
            refine lv_iconst (v := 1) hx hb dX3_turnsOf_46 (by decide) ?_
            refine lv_icmp_ne (tgt := 54) hx hb dX3_turnsOf_47 (by decide) (fun hc8 => ?_) (fun hc8 => ?_)
            · replace he := i_f hc8 he
              refine lv_iconst (v := 0) hx hb dX3_turnsOf_54 (by decide) ?_
              exact retIe (cf := (cC G)) C hr hlk hd he dX3_turnsOf_55
            · replace he := i_t hc8 he
              refine lv_iconst (v := 2) hx hb dX3_turnsOf_50 (by decide) ?_
              refine lv_goto (tgt := 55) hx hb dX3_turnsOf_51 (by decide) ?_
              exact retIe (cf := (cC G)) C hr hlk hd he dX3_turnsOf_55
          · refine lv_tableOut (tgt := 56) hx hb dX3_turnsOf_1 (tbl_out (fun k k1 k2 => by rcases (show k = 1 ∨ k = 2 ∨ k = 3 ∨ k = 4 ∨ k = 5 by omega) with rfl | rfl | rfl | rfl | rfl <;> first | exact hc1 | exact hc3 | exact hc4 | exact hc5 | exact hc7)) (by decide) ?_
            refine lv_iconst (v := 0) hx hb dX3_turnsOf_56 (by decide) ?_
            exact retIe (cf := (cC G)) C hr hlk hd he dX3_turnsOf_57
set_option maxRecDepth 100000 in
set_option maxHeartbeats 4000000 in
theorem c_X0_tell (l : Launch) (G : Gd) (ks : Ks) (hJ : Inj 37 G.2.2) {j : Nat} {a1 : Int32} {a2 : Int32} (hj : j < 3) {V V' : VV} {r : Int32} (he : f_X0_tell j a1 a2 V = some (r, V')) : MI l 37 G (XC G ks) yX0_tell cX0_tell 3 2 41 [.ref (G.2.2 (8 * j)), .int a1, .int a2] (cC G V) (cC G V') r := by
  refine walk_of (own := RX0) (by decide) rfl hJ (xs_C G ks) (Nat.le_of_ble_eq_true rfl) ?_
  intro p e s m below meth c C hr hlk ls hl hd
  have hl : lv_has ls 3 [(0, .ref (G.2.2 (8 * j))), (1, .int a1), (2, .int a2)] := hl
  obtain ⟨⟨hx, hb, hml, hown, hts⟩, -⟩ := id C
  unfold f_X0_tell at he
  refine lv_iload_n hx hb dX0_tell_0 rfl (lv_at hl 2 rfl) ?_
  replace he := ite_cases he
  rcases he with ⟨hc1, he⟩ | ⟨hc1, he⟩
  · refine rtabIn (k := 0) (off := 47) (tgt := 48) hx hb dX0_tell_1 hc1 (by decide) (by decide) rfl (by decide) ?_
    refine lv_aload_n hx hb dX0_tell_48 rfl (lv_at hl 0 rfl) ?_
    refine rgetf C hd (lt_moor hj) (cC_moor hj) rfl tgX0 4 (by decide) uw109 rfl dX0_tell_49 ?_
    refine lv_iload_n hx hb dX0_tell_52 rfl (lv_at hl 1 rfl) ?_
    replace he := g_some he
    obtain ⟨hi2, he⟩ := he
    refine riald C hd (lt_marr hj 1 (by decide)) (cC_marr hj 1 (by decide) (by decide)) hi2 dX0_tell_53 ?_
    exact retIe (cf := (cC G)) C hr hlk hd he dX0_tell_54
  · replace he := ite_cases he
    rcases he with ⟨hc3, he⟩ | ⟨hc3, he⟩
    · refine rtabIn (k := 1) (off := 54) (tgt := 55) hx hb dX0_tell_1 hc3 (by decide) (by decide) rfl (by decide) ?_
      refine lv_aload_n hx hb dX0_tell_55 rfl (lv_at hl 0 rfl) ?_
      refine rgetf C hd (lt_moor hj) (cC_moor hj) rfl tgX0 5 (by decide) uw111 rfl dX0_tell_56 ?_
      refine lv_iload_n hx hb dX0_tell_59 rfl (lv_at hl 1 rfl) ?_
      replace he := g_some he
      obtain ⟨hi4, he⟩ := he
      refine riald C hd (lt_marr hj 2 (by decide)) (cC_marr hj 2 (by decide) (by decide)) hi4 dX0_tell_60 ?_
      exact retIe (cf := (cC G)) C hr hlk hd he dX0_tell_61
    · replace he := ite_cases he
      rcases he with ⟨hc5, he⟩ | ⟨hc5, he⟩
      · refine rtabIn (k := 2) (off := 61) (tgt := 62) hx hb dX0_tell_1 hc5 (by decide) (by decide) rfl (by decide) ?_
        refine lv_aload_n hx hb dX0_tell_62 rfl (lv_at hl 0 rfl) ?_
        refine rgetf C hd (lt_moor hj) (cC_moor hj) rfl tgX0 6 (by decide) uw113 rfl dX0_tell_63 ?_
        refine lv_iload_n hx hb dX0_tell_66 rfl (lv_at hl 1 rfl) ?_
        replace he := g_some he
        obtain ⟨hi6, he⟩ := he
        refine riald C hd (lt_marr hj 3 (by decide)) (cC_marr hj 3 (by decide) (by decide)) hi6 dX0_tell_67 ?_
        exact retIe (cf := (cC G)) C hr hlk hd he dX0_tell_68
      · replace he := ite_cases he
        rcases he with ⟨hc7, he⟩ | ⟨hc7, he⟩
        · refine rtabIn (k := 3) (off := 68) (tgt := 69) hx hb dX0_tell_1 hc7 (by decide) (by decide) rfl (by decide) ?_
          refine lv_aload_n hx hb dX0_tell_69 rfl (lv_at hl 0 rfl) ?_
          refine rgetf C hd (lt_moor hj) (cC_moor hj) rfl tgX0 7 (by decide) uw115 rfl dX0_tell_70 ?_
          refine lv_iload_n hx hb dX0_tell_73 rfl (lv_at hl 1 rfl) ?_
          replace he := g_some he
          obtain ⟨hi8, he⟩ := he
          refine riald C hd (lt_marr hj 4 (by decide)) (cC_marr hj 4 (by decide) (by decide)) hi8 dX0_tell_74 ?_
          exact retIe (cf := (cC G)) C hr hlk hd he dX0_tell_75
        · replace he := ite_cases he
          rcases he with ⟨hc9, he⟩ | ⟨hc9, he⟩
          · refine rtabIn (k := 4) (off := 75) (tgt := 76) hx hb dX0_tell_1 hc9 (by decide) (by decide) rfl (by decide) ?_
            refine lv_aload_n hx hb dX0_tell_76 rfl (lv_at hl 0 rfl) ?_
            refine rgetf C hd (lt_moor hj) (cC_moor hj) rfl tgX0 8 (by decide) uw118 rfl dX0_tell_77 ?_
            refine lv_iload_n hx hb dX0_tell_80 rfl (lv_at hl 1 rfl) ?_
            replace he := g_some he
            obtain ⟨hi10, he⟩ := he
            refine riald C hd (lt_marr hj 5 (by decide)) (cC_marr hj 5 (by decide) (by decide)) hi10 dX0_tell_81 ?_
            exact retIe (cf := (cC G)) C hr hlk hd he dX0_tell_82
          · replace he := ite_cases he
            rcases he with ⟨hc11, he⟩ | ⟨hc11, he⟩
            · refine rtabIn (k := 5) (off := 82) (tgt := 83) hx hb dX0_tell_1 hc11 (by decide) (by decide) rfl (by decide) ?_
              refine lv_aload_n hx hb dX0_tell_83 rfl (lv_at hl 0 rfl) ?_
              refine rgetf C hd (lt_moor hj) (cC_moor hj) rfl tgX0 9 (by decide) uw121 rfl dX0_tell_84 ?_
              refine lv_iload_n hx hb dX0_tell_87 rfl (lv_at hl 1 rfl) ?_
              replace he := g_some he
              obtain ⟨hi12, he⟩ := he
              refine riald C hd (lt_marr hj 6 (by decide)) (cC_marr hj 6 (by decide) (by decide)) hi12 dX0_tell_88 ?_
              exact retIe (cf := (cC G)) C hr hlk hd he dX0_tell_89
            · replace he := ite_cases he
              rcases he with ⟨hc13, he⟩ | ⟨hc13, he⟩
              · refine rtabIn (k := 6) (off := 89) (tgt := 90) hx hb dX0_tell_1 hc13 (by decide) (by decide) rfl (by decide) ?_
                refine lv_aload_n hx hb dX0_tell_90 rfl (lv_at hl 0 rfl) ?_
                refine rgetf C hd (lt_moor hj) (cC_moor hj) rfl tgX0 10 (by decide) uw123 rfl dX0_tell_91 ?_
                refine lv_iload_n hx hb dX0_tell_94 rfl (lv_at hl 1 rfl) ?_
                replace he := g_some he
                obtain ⟨hi14, he⟩ := he
                refine riald C hd (lt_marr hj 7 (by decide)) (cC_marr hj 7 (by decide) (by decide)) hi14 dX0_tell_95 ?_
                exact retIe (cf := (cC G)) C hr hlk hd he dX0_tell_96
              · replace he := ite_cases he
                rcases he with ⟨hc15, he⟩ | ⟨hc15, he⟩
                · refine rtabIn (k := 7) (off := 96) (tgt := 97) hx hb dX0_tell_1 hc15 (by decide) (by decide) rfl (by decide) ?_
                  refine lv_aload_n hx hb dX0_tell_97 rfl (lv_at hl 0 rfl) ?_
                  refine rgetf C hd (lt_moor hj) (cC_moor hj) rfl tgX0 4 (by decide) uw109 rfl dX0_tell_98 ?_
                  refine lv_iload_n hx hb dX0_tell_101 rfl (lv_at hl 1 rfl) ?_
                  replace he := g_some he
                  obtain ⟨hi16, he⟩ := he
                  refine riald C hd (lt_marr hj 1 (by decide)) (cC_marr hj 1 (by decide) (by decide)) hi16 dX0_tell_102 ?_
                  refine lv_aload_n hx hb dX0_tell_103 rfl (lv_at hl 0 rfl) ?_
                  refine rgetf C hd (lt_moor hj) (cC_moor hj) rfl tgX0 0 (by decide) uw99 rfl dX0_tell_104 ?_
                  replace he := b_some he
                  obtain ⟨⟨r17, V17⟩, h17, he⟩ := he
                  refine kNI C hd hl.1 kw_X0_56 C.2.2.2.2.2.2.2.2.2.2.1 (c_X3_stepsOf l G ks hJ h17) ⟨Nat.le_of_ble_eq_true rfl, Nat.le_of_ble_eq_true rfl⟩ rfl (rest := []) rfl (Nat.le_of_ble_eq_true rfl) dX0_tell_107 (fun H locs hd => ?_)
                  exact retIe (cf := (cC G)) C hr hlk hd he dX0_tell_110
                · refine lv_tableOut (tgt := 111) hx hb dX0_tell_1 (tbl_out (fun k k1 k2 => by rcases (show k = 0 ∨ k = 1 ∨ k = 2 ∨ k = 3 ∨ k = 4 ∨ k = 5 ∨ k = 6 ∨ k = 7 by omega) with rfl | rfl | rfl | rfl | rfl | rfl | rfl | rfl <;> first | exact hc1 | exact hc3 | exact hc5 | exact hc7 | exact hc9 | exact hc11 | exact hc13 | exact hc15)) (by decide) ?_
                  refine lv_aload_n hx hb dX0_tell_111 rfl (lv_at hl 0 rfl) ?_
                  refine rgetf C hd (lt_moor hj) (cC_moor hj) rfl tgX0 4 (by decide) uw109 rfl dX0_tell_112 ?_
                  refine lv_iload_n hx hb dX0_tell_115 rfl (lv_at hl 1 rfl) ?_
                  replace he := g_some he
                  obtain ⟨hi18, he⟩ := he
                  refine riald C hd (lt_marr hj 1 (by decide)) (cC_marr hj 1 (by decide) (by decide)) hi18 dX0_tell_116 ?_
                  refine lv_aload_n hx hb dX0_tell_117 rfl (lv_at hl 0 rfl) ?_
                  refine rgetf C hd (lt_moor hj) (cC_moor hj) rfl tgX0 0 (by decide) uw99 rfl dX0_tell_118 ?_
                  replace he := b_some he
                  obtain ⟨⟨r19, V19⟩, h19, he⟩ := he
                  refine kNI C hd hl.1 kw_X0_60 C.2.2.2.2.2.2.2.2.2.2.2.1 (c_X3_turnsOf l G ks hJ h19) ⟨Nat.le_of_ble_eq_true rfl, Nat.le_of_ble_eq_true rfl⟩ rfl (rest := []) rfl (Nat.le_of_ble_eq_true rfl) dX0_tell_121 (fun H locs hd => ?_)
                  exact retIe (cf := (cC G)) C hr hlk hd he dX0_tell_124
set_option maxRecDepth 100000 in
set_option maxHeartbeats 4000000 in
theorem c_X3_of (l : Launch) (G : Gd) (ks : Ks) (hJ : Inj 37 G.2.2) {a1 : Int32} {a2 : Int32} {V V' : VV} {r : Int32} (he : f_X3_of a1 a2 V = some (r, V')) : MI l 37 G (XC G ks) yX3_of cX3_of 3 3 63 [.ref (G.2.2 24), .int a1, .int a2] (cC G V) (cC G V') r := by
  refine walk_of (own := RX3) (by decide) rfl hJ (xs_C G ks) (Nat.le_of_ble_eq_true rfl) ?_
  intro p e s m below meth c C hr hlk ls hl hd
  have hl : lv_has ls 3 [(0, .ref (G.2.2 24)), (1, .int a1), (2, .int a2)] := hl
  obtain ⟨⟨hx, hb, hml, hown, hts⟩, -⟩ := id C
  unfold f_X3_of at he
  refine lv_aload_n hx hb dX3_of_0 rfl (lv_at hl 0 rfl) ?_
  refine rgetf C hd (by decide) cC24 rfl tgX3 0 (by decide) uw199 rfl dX3_of_1 ?_
  refine lv_iload_n hx hb dX3_of_4 rfl (lv_at hl 1 rfl) ?_
  replace he := b_some he
  obtain ⟨⟨r1, V1⟩, h1, he⟩ := he
  refine kVZ C hd hl.1 kw_X3_76 (lt_moor (by decide)) (cC_moor (by decide)) rfl (c_X0_has l G ks hJ (by decide) h1) ⟨Nat.le_of_ble_eq_true rfl, Nat.le_of_ble_eq_true rfl⟩ rfl (rest := []) rfl (Nat.le_of_ble_eq_true rfl) dX3_of_5 (fun H locs hz1 hd => ?_)
  refine lv_if_eq (tgt := 21) hx hb dX3_of_8 (by decide) (fun hc2 => ?_) (fun hc2 => ?_)
  · replace he := i_t hc2 he
    refine lv_aload_n hx hb dX3_of_21 rfl (lv_at hl 0 rfl) ?_
    refine lv_ldc hx hb hown (hts _ uw226) dX3_of_22 ?_
    replace he := b_some he
    obtain ⟨⟨r3, V3⟩, h3, he⟩ := he
    refine kVI C hd hl.1 kw_X3_46 (by decide) cC24 rfl (c_X3_finding l G ks hJ h3) ⟨Nat.le_of_ble_eq_true rfl, Nat.le_of_ble_eq_true rfl⟩ rfl (rest := []) rfl (Nat.le_of_ble_eq_true rfl) dX3_of_24 (fun H locs hd => ?_)
    exact retIe (cf := (cC G)) C hr hlk hd he dX3_of_27
  · replace he := i_f hc2 he
    refine lv_iload_n hx hb dX3_of_11 rfl (lv_at hl 2 rfl) ?_
    refine lv_if_lt (tgt := 21) hx hb dX3_of_12 (by decide) (fun hc4 => ?_) (fun hc4 => ?_)
    · replace he := i_t hc4 he
      refine lv_aload_n hx hb dX3_of_21 rfl (lv_at hl 0 rfl) ?_
      refine lv_ldc hx hb hown (hts _ uw226) dX3_of_22 ?_
      replace he := b_some he
      obtain ⟨⟨r5, V5⟩, h5, he⟩ := he
      refine kVI C hd hl.1 kw_X3_46 (by decide) cC24 rfl (c_X3_finding l G ks hJ h5) ⟨Nat.le_of_ble_eq_true rfl, Nat.le_of_ble_eq_true rfl⟩ rfl (rest := []) rfl (Nat.le_of_ble_eq_true rfl) dX3_of_24 (fun H locs hd => ?_)
      exact retIe (cf := (cC G)) C hr hlk hd he dX3_of_27
    · replace he := i_f hc4 he
      refine lv_iload_n hx hb dX3_of_15 rfl (lv_at hl 2 rfl) ?_
      refine lv_bipush (v := 8) hx hb dX3_of_16 (by decide) ?_
      refine lv_icmp_le (tgt := 28) hx hb dX3_of_18 (by decide) (fun hc6 => ?_) (fun hc6 => ?_)
      · replace he := i_t hc6 he
        refine lv_aload_n hx hb dX3_of_28 rfl (lv_at hl 0 rfl) ?_
        refine rgetf C hd (by decide) cC24 rfl tgX3 0 (by decide) uw199 rfl dX3_of_29 ?_
        refine lv_iload_n hx hb dX3_of_32 rfl (lv_at hl 1 rfl) ?_
        refine lv_iload_n hx hb dX3_of_33 rfl (lv_at hl 2 rfl) ?_
        replace he := b_some he
        obtain ⟨⟨r7, V7⟩, h7, he⟩ := he
        refine kVI C hd hl.1 kw_X3_79 (lt_moor (by decide)) (cC_moor (by decide)) rfl (c_X0_tell l G ks hJ (by decide) h7) ⟨Nat.le_of_ble_eq_true rfl, Nat.le_of_ble_eq_true rfl⟩ rfl (rest := []) rfl (Nat.le_of_ble_eq_true rfl) dX3_of_34 (fun H locs hd => ?_)
        exact retIe (cf := (cC G)) C hr hlk hd he dX3_of_37
      · replace he := i_f hc6 he
        refine lv_aload_n hx hb dX3_of_21 rfl (lv_at hl 0 rfl) ?_
        refine lv_ldc hx hb hown (hts _ uw226) dX3_of_22 ?_
        replace he := b_some he
        obtain ⟨⟨r8, V8⟩, h8, he⟩ := he
        refine kVI C hd hl.1 kw_X3_46 (by decide) cC24 rfl (c_X3_finding l G ks hJ h8) ⟨Nat.le_of_ble_eq_true rfl, Nat.le_of_ble_eq_true rfl⟩ rfl (rest := []) rfl (Nat.le_of_ble_eq_true rfl) dX3_of_24 (fun H locs hd => ?_)
        exact retIe (cf := (cC G)) C hr hlk hd he dX3_of_27
set_option maxRecDepth 100000 in
set_option maxHeartbeats 4000000 in
theorem c_X3_valuesOf (l : Launch) (G : Gd) (ks : Ks) (hJ : Inj 37 G.2.2) {a1 : Int32} {V V' : VV} {r : Int32} (he : f_X3_valuesOf a1 V = some (r, V')) : MI l 37 G (XC G ks) yX3_valuesOf cX3_valuesOf 1 0 0 [.int a1] (cC G V) (cC G V') r := by
  refine walk_of (own := RX3) (by decide) rfl hJ (xs_C G ks) (Nat.le_of_ble_eq_true rfl) ?_
  intro p e s m below meth c C hr hlk ls hl hd
  have hl : lv_has ls 1 [(0, .int a1)] := hl
  obtain ⟨⟨hx, hb, hml, hown, hts⟩, -⟩ := id C
  unfold f_X3_valuesOf at he
  refine lv_iload_n hx hb dX3_valuesOf_0 rfl (lv_at hl 0 rfl) ?_
  replace he := ite_cases he
  rcases he with ⟨hc1, he⟩ | ⟨hc1, he⟩
  · refine rtabIn (k := 1) (off := 27) (tgt := 28) hx hb dX3_valuesOf_1 hc1 (by decide) (by decide) rfl (by decide) ?_
    refine lv_bipush (v := 36) hx hb dX3_valuesOf_28 (by decide) ?_
    exact retIe (cf := (cC G)) C hr hlk hd he dX3_valuesOf_30
  · replace he := ite_cases he
    rcases he with ⟨hc2, he⟩ | ⟨hc2, he⟩
    · refine rtabIn (k := 2) (off := 27) (tgt := 28) hx hb dX3_valuesOf_1 hc2 (by decide) (by decide) rfl (by decide) ?_
      refine lv_bipush (v := 36) hx hb dX3_valuesOf_28 (by decide) ?_
      exact retIe (cf := (cC G)) C hr hlk hd he dX3_valuesOf_30
    · replace he := ite_cases he
      rcases he with ⟨hc3, he⟩ | ⟨hc3, he⟩
      · refine rtabIn (k := 3) (off := 30) (tgt := 31) hx hb dX3_valuesOf_1 hc3 (by decide) (by decide) rfl (by decide) ?_
        refine lv_iconst (v := 4) hx hb dX3_valuesOf_31 (by decide) ?_
        exact retIe (cf := (cC G)) C hr hlk hd he dX3_valuesOf_32
      · refine lv_tableOut (tgt := 33) hx hb dX3_valuesOf_1 (tbl_out (fun k k1 k2 => by rcases (show k = 1 ∨ k = 2 ∨ k = 3 by omega) with rfl | rfl | rfl <;> first | exact hc1 | exact hc2 | exact hc3)) (by decide) ?_
        refine lv_bipush (v := 16) hx hb dX3_valuesOf_33 (by decide) ?_
        exact retIe (cf := (cC G)) C hr hlk hd he dX3_valuesOf_35
set_option maxRecDepth 100000 in
set_option maxHeartbeats 4000000 in
theorem c_X0_bringAlong (l : Launch) (G : Gd) (ks : Ks) (hJ : Inj 37 G.2.2) {j : Nat} {a1 : Int32} (hj : j < 3) {V V' : VV} (he : f_X0_bringAlong j a1 V = some V') : MV l 37 G (XC G ks) yX0_bringAlong cX0_bringAlong 3 1 21 [.ref (G.2.2 (8 * j)), .int a1] (cC G V) (cC G V') := by
  refine walk_of (own := RX0) (by decide) rfl hJ (xs_C G ks) (Nat.le_of_ble_eq_true rfl) ?_
  intro p e s m below meth c C hr hlk ls hl hd
  have hl : lv_has ls 3 [(0, .ref (G.2.2 (8 * j))), (1, .int a1)] := hl
  obtain ⟨⟨hx, hb, hml, hown, hts⟩, -⟩ := id C
  unfold f_X0_bringAlong at he
  refine lv_aload_n hx hb dX0_bringAlong_0 rfl (lv_at hl 0 rfl) ?_
  refine rgetf C hd (lt_moor hj) (cC_moor hj) rfl tgX0 9 (by decide) uw121 rfl dX0_bringAlong_1 ?_
  refine lv_iload_n hx hb dX0_bringAlong_4 rfl (lv_at hl 1 rfl) ?_
  replace he := g_some he
  obtain ⟨hi1, he⟩ := he
  refine riald C hd (lt_marr hj 6 (by decide)) (cC_marr hj 6 (by decide) (by decide)) hi1 dX0_bringAlong_5 ?_
  refine lv_istore_n (lv' := [(2, .int _), (0, .ref _), (1, .int _)]) hx hb dX0_bringAlong_6 rfl hl (by decide) rfl (fun ls hl => ?_)
  refine lv_aload_n hx hb dX0_bringAlong_7 rfl (lv_at hl 1 rfl) ?_
  refine lv_iload_n hx hb dX0_bringAlong_8 rfl (lv_at hl 0 rfl) ?_
  replace he := b_some he
  obtain ⟨⟨r2, V2⟩, h2, he⟩ := he
  refine kVZ C hd hl.1 kw_X0_74 (lt_moor hj) (cC_moor hj) rfl (c_X0_has l G ks hJ hj h2) ⟨Nat.le_of_ble_eq_true rfl, Nat.le_of_ble_eq_true rfl⟩ rfl (rest := []) rfl (Nat.le_of_ble_eq_true rfl) dX0_bringAlong_9 (fun H locs hz2 hd => ?_)
  refine lv_if_eq (tgt := 27) hx hb dX0_bringAlong_12 (by decide) (fun hc3 => ?_) (fun hc3 => ?_)
  · replace he := i_t hc3 he
    exact retVe (cf := (cC G)) C hr hlk hd he dX0_bringAlong_27
  · replace he := i_f hc3 he
    refine lv_aload_n hx hb dX0_bringAlong_15 rfl (lv_at hl 1 rfl) ?_
    refine rgetf C hd (lt_moor hj) (cC_moor hj) rfl tgX0 5 (by decide) uw111 rfl dX0_bringAlong_16 ?_
    refine lv_iload_n hx hb dX0_bringAlong_19 rfl (lv_at hl 0 rfl) ?_
    refine lv_aload_n hx hb dX0_bringAlong_20 rfl (lv_at hl 1 rfl) ?_
    refine rgetf C hd (lt_moor hj) (cC_moor hj) rfl tgX0 5 (by decide) uw111 rfl dX0_bringAlong_21 ?_
    refine lv_iload_n hx hb dX0_bringAlong_24 rfl (lv_at hl 2 rfl) ?_
    replace he := g_some he
    obtain ⟨hi4, he⟩ := he
    refine riald C hd (lt_marr hj 2 (by decide)) (cC_marr hj 2 (by decide) (by decide)) hi4 dX0_bringAlong_25 ?_
    replace he := g_some he
    obtain ⟨hi5, he⟩ := he
    replace he := bv_ex he
    obtain ⟨V6, e6, he⟩ := he
    refine riast (cell' := (cC G) V6) C hd (lt_marr hj 2 (by decide)) (cC_marr hj 2 (by decide) (by decide)) hi5 (cC_marr_w hj 2 (by decide) (by decide) e6) (cC_ne e6) dX0_bringAlong_26 (fun H locs hd => ?_)
    exact retVe (cf := (cC G)) C hr hlk hd he dX0_bringAlong_27
set_option maxRecDepth 100000 in
set_option maxHeartbeats 4000000 in
theorem c_X0_moveTo (l : Launch) (G : Gd) (ks : Ks) (hJ : Inj 37 G.2.2) {j : Nat} {a1 : Int32} {a2 : Int32} (hj : j < 3) {V V' : VV} (he : f_X0_moveTo j a1 a2 V = some V') : MV l 37 G (XC G ks) yX0_moveTo cX0_moveTo 3 2 43 [.ref (G.2.2 (8 * j)), .int a1, .int a2] (cC G V) (cC G V') := by
  refine walk_of (own := RX0) (by decide) rfl hJ (xs_C G ks) (Nat.le_of_ble_eq_true rfl) ?_
  intro p e s m below meth c C hr hlk ls hl hd
  have hl : lv_has ls 3 [(0, .ref (G.2.2 (8 * j))), (1, .int a1), (2, .int a2)] := hl
  obtain ⟨⟨hx, hb, hml, hown, hts⟩, -⟩ := id C
  unfold f_X0_moveTo at he
  refine lv_aload_n hx hb dX0_moveTo_0 rfl (lv_at hl 0 rfl) ?_
  refine rgetf C hd (lt_moor hj) (cC_moor hj) rfl tgX0 5 (by decide) uw111 rfl dX0_moveTo_1 ?_
  refine lv_iload_n hx hb dX0_moveTo_4 rfl (lv_at hl 1 rfl) ?_
  refine lv_iload_n hx hb dX0_moveTo_5 rfl (lv_at hl 2 rfl) ?_
  replace he := g_some he
  obtain ⟨hi1, he⟩ := he
  replace he := bv_ex he
  obtain ⟨V2, e2, he⟩ := he
  refine riast (cell' := (cC G) V2) C hd (lt_marr hj 2 (by decide)) (cC_marr hj 2 (by decide) (by decide)) hi1 (cC_marr_w hj 2 (by decide) (by decide) e2) (cC_ne e2) dX0_moveTo_6 (fun H locs hd => ?_)
  refine lv_aload_n hx hb dX0_moveTo_7 rfl (lv_at hl 0 rfl) ?_
  refine lv_iload_n hx hb dX0_moveTo_8 rfl (lv_at hl 1 rfl) ?_
  replace he := b_some he
  obtain ⟨V3, h3, he⟩ := he
  refine kVV C hd hl.1 kw_X0_70 (lt_moor hj) (cC_moor hj) rfl (c_X0_bringAlong l G ks hJ hj h3) ⟨Nat.le_of_ble_eq_true rfl, Nat.le_of_ble_eq_true rfl⟩ rfl (rest := []) rfl (Nat.le_of_ble_eq_true rfl) dX0_moveTo_9 (fun H locs hd => ?_)
  exact retVe (cf := (cC G)) C hr hlk hd he dX0_moveTo_12
set_option maxRecDepth 100000 in
set_option maxHeartbeats 4000000 in
theorem c_X3_set (l : Launch) (G : Gd) (ks : Ks) (hJ : Inj 37 G.2.2) {a1 : Int32} {a2 : Int32} {a3 : Int32} {V V' : VV} {r : Int32} (he : f_X3_set a1 a2 a3 V = some (r, V')) : MI l 37 G (XC G ks) yX3_set cX3_set 5 3 65 [.ref (G.2.2 24), .int a1, .int a2, .int a3] (cC G V) (cC G V') r := by
  refine walk_of (own := RX3) (by decide) rfl hJ (xs_C G ks) (Nat.le_of_ble_eq_true rfl) ?_
  intro p e s m below meth c C hr hlk ls hl hd
  have hl : lv_has ls 5 [(0, .ref (G.2.2 24)), (1, .int a1), (2, .int a2), (3, .int a3)] := hl
  obtain ⟨⟨hx, hb, hml, hown, hts⟩, -⟩ := id C
  unfold f_X3_set at he
  refine lv_aload_n hx hb dX3_set_0 rfl (lv_at hl 0 rfl) ?_
  refine rgetf C hd (by decide) cC24 rfl tgX3 0 (by decide) uw199 rfl dX3_set_1 ?_
  refine lv_iload_n hx hb dX3_set_4 rfl (lv_at hl 1 rfl) ?_
  replace he := b_some he
  obtain ⟨⟨r1, V1⟩, h1, he⟩ := he
  refine kVZ C hd hl.1 kw_X3_76 (lt_moor (by decide)) (cC_moor (by decide)) rfl (c_X0_has l G ks hJ (by decide) h1) ⟨Nat.le_of_ble_eq_true rfl, Nat.le_of_ble_eq_true rfl⟩ rfl (rest := []) rfl (Nat.le_of_ble_eq_true rfl) dX3_set_5 (fun H locs hz1 hd => ?_)
  refine lv_if_eq (tgt := 33) hx hb dX3_set_8 (by decide) (fun hc2 => ?_) (fun hc2 => ?_)
  · replace he := i_t hc2 he
    refine lv_aload_n hx hb dX3_set_33 rfl (lv_at hl 0 rfl) ?_
    refine lv_ldc hx hb hown (hts _ uw226) dX3_set_34 ?_
    replace he := b_some he
    obtain ⟨⟨r3, V3⟩, h3, he⟩ := he
    refine kVI C hd hl.1 kw_X3_46 (by decide) cC24 rfl (c_X3_finding l G ks hJ h3) ⟨Nat.le_of_ble_eq_true rfl, Nat.le_of_ble_eq_true rfl⟩ rfl (rest := []) rfl (Nat.le_of_ble_eq_true rfl) dX3_set_36 (fun H locs hd => ?_)
    exact retIe (cf := (cC G)) C hr hlk hd he dX3_set_39
  · replace he := i_f hc2 he
    refine lv_iload_n hx hb dX3_set_11 rfl (lv_at hl 2 rfl) ?_
    refine lv_iconst (v := 1) hx hb dX3_set_12 (by decide) ?_
    refine lv_icmp_lt (tgt := 33) hx hb dX3_set_13 (by decide) (fun hc4 => ?_) (fun hc4 => ?_)
    · replace he := i_t hc4 he
      refine lv_aload_n hx hb dX3_set_33 rfl (lv_at hl 0 rfl) ?_
      refine lv_ldc hx hb hown (hts _ uw226) dX3_set_34 ?_
      replace he := b_some he
      obtain ⟨⟨r5, V5⟩, h5, he⟩ := he
      refine kVI C hd hl.1 kw_X3_46 (by decide) cC24 rfl (c_X3_finding l G ks hJ h5) ⟨Nat.le_of_ble_eq_true rfl, Nat.le_of_ble_eq_true rfl⟩ rfl (rest := []) rfl (Nat.le_of_ble_eq_true rfl) dX3_set_36 (fun H locs hd => ?_)
      exact retIe (cf := (cC G)) C hr hlk hd he dX3_set_39
    · replace he := i_f hc4 he
      refine lv_iload_n hx hb dX3_set_16 rfl (lv_at hl 2 rfl) ?_
      refine lv_iconst (v := 4) hx hb dX3_set_17 (by decide) ?_
      refine lv_icmp_gt (tgt := 33) hx hb dX3_set_18 (by decide) (fun hc6 => ?_) (fun hc6 => ?_)
      · replace he := i_t hc6 he
        refine lv_aload_n hx hb dX3_set_33 rfl (lv_at hl 0 rfl) ?_
        refine lv_ldc hx hb hown (hts _ uw226) dX3_set_34 ?_
        replace he := b_some he
        obtain ⟨⟨r7, V7⟩, h7, he⟩ := he
        refine kVI C hd hl.1 kw_X3_46 (by decide) cC24 rfl (c_X3_finding l G ks hJ h7) ⟨Nat.le_of_ble_eq_true rfl, Nat.le_of_ble_eq_true rfl⟩ rfl (rest := []) rfl (Nat.le_of_ble_eq_true rfl) dX3_set_36 (fun H locs hd => ?_)
        exact retIe (cf := (cC G)) C hr hlk hd he dX3_set_39
      · replace he := i_f hc6 he
        refine lv_iload_n hx hb dX3_set_21 rfl (lv_at hl 3 rfl) ?_
        refine lv_if_lt (tgt := 33) hx hb dX3_set_22 (by decide) (fun hc8 => ?_) (fun hc8 => ?_)
        · replace he := i_t hc8 he
          refine lv_aload_n hx hb dX3_set_33 rfl (lv_at hl 0 rfl) ?_
          refine lv_ldc hx hb hown (hts _ uw226) dX3_set_34 ?_
          replace he := b_some he
          obtain ⟨⟨r9, V9⟩, h9, he⟩ := he
          refine kVI C hd hl.1 kw_X3_46 (by decide) cC24 rfl (c_X3_finding l G ks hJ h9) ⟨Nat.le_of_ble_eq_true rfl, Nat.le_of_ble_eq_true rfl⟩ rfl (rest := []) rfl (Nat.le_of_ble_eq_true rfl) dX3_set_36 (fun H locs hd => ?_)
          exact retIe (cf := (cC G)) C hr hlk hd he dX3_set_39
        · replace he := i_f hc8 he
          refine lv_iload_n hx hb dX3_set_25 rfl (lv_at hl 3 rfl) ?_
          refine lv_iload_n hx hb dX3_set_26 rfl (lv_at hl 2 rfl) ?_
          replace he := b_some he
          obtain ⟨⟨r10, V10⟩, h10, he⟩ := he
          refine kSI C hd hl.1 kw_X3_82 (c_X3_valuesOf l G ks hJ h10) ⟨Nat.le_of_ble_eq_true rfl, Nat.le_of_ble_eq_true rfl⟩ rfl (rest := [.int _]) rfl (Nat.le_of_ble_eq_true rfl) dX3_set_27 (fun H locs hd => ?_)
          refine lv_icmp_lt (tgt := 40) hx hb dX3_set_30 (by decide) (fun hc11 => ?_) (fun hc11 => ?_)
          · replace he := i_t hc11 he
            refine lv_aload_n hx hb dX3_set_40 rfl (lv_at hl 0 rfl) ?_
            refine rgetf C hd (by decide) cC24 rfl tgX3 0 (by decide) uw199 rfl dX3_set_41 ?_
            refine lv_iload_n hx hb dX3_set_44 rfl (lv_at hl 1 rfl) ?_
            refine lv_iload_n hx hb dX3_set_45 rfl (lv_at hl 2 rfl) ?_
            replace he := b_some he
            obtain ⟨⟨r12, V12⟩, h12, he⟩ := he
            refine kVI C hd hl.1 kw_X3_79 (lt_moor (by decide)) (cC_moor (by decide)) rfl (c_X0_tell l G ks hJ (by decide) h12) ⟨Nat.le_of_ble_eq_true rfl, Nat.le_of_ble_eq_true rfl⟩ rfl (rest := []) rfl (Nat.le_of_ble_eq_true rfl) dX3_set_46 (fun H locs hd => ?_)
            refine lv_istore (lv' := [(4, .int _), (0, .ref _), (1, .int _), (2, .int _), (3, .int _)]) hx hb dX3_set_49 hl (by decide) rfl (fun ls hl => ?_)
            refine lv_iload_n hx hb dX3_set_51 rfl (lv_at hl 3 rfl) ?_
            replace he := ite_cases he
            rcases he with ⟨hc13, he⟩ | ⟨hc13, he⟩
            · refine rtabIn (k := 1) (off := 28) (tgt := 80) hx hb dX3_set_52 hc13 (by decide) (by decide) rfl (by decide) ?_
              refine lv_aload_n hx hb dX3_set_80 rfl (lv_at hl 1 rfl) ?_
              refine rgetf C hd (by decide) cC24 rfl tgX3 0 (by decide) uw199 rfl dX3_set_81 ?_
              refine lv_iload_n hx hb dX3_set_84 rfl (lv_at hl 2 rfl) ?_
              refine lv_iload_n hx hb dX3_set_85 rfl (lv_at hl 4 rfl) ?_
              replace he := b_some he
              obtain ⟨V14, h14, he⟩ := he
              refine kVV C hd hl.1 kw_X3_85 (lt_moor (by decide)) (cC_moor (by decide)) rfl (c_X0_moveTo l G ks hJ (by decide) h14) ⟨Nat.le_of_ble_eq_true rfl, Nat.le_of_ble_eq_true rfl⟩ rfl (rest := []) rfl (Nat.le_of_ble_eq_true rfl) dX3_set_86 (fun H locs hd => ?_)
              refine lv_goto (tgt := 128) hx hb dX3_set_89 (by decide) ?_
              refine lv_iload hx hb dX3_set_128 (lv_at hl 0 rfl) ?_
              exact retIe (cf := (cC G)) C hr hlk hd he dX3_set_130
            · replace he := ite_cases he
              rcases he with ⟨hc15, he⟩ | ⟨hc15, he⟩
              · refine rtabIn (k := 2) (off := 40) (tgt := 92) hx hb dX3_set_52 hc15 (by decide) (by decide) rfl (by decide) ?_
                refine lv_aload_n hx hb dX3_set_92 rfl (lv_at hl 1 rfl) ?_
                refine rgetf C hd (by decide) cC24 rfl tgX3 0 (by decide) uw199 rfl dX3_set_93 ?_
                refine rgetf C hd (lt_moor (by decide)) (cC_moor (by decide)) rfl tgX0 6 (by decide) uw114 rfl dX3_set_96 ?_
                refine lv_iload_n hx hb dX3_set_99 rfl (lv_at hl 2 rfl) ?_
                refine lv_iload_n hx hb dX3_set_100 rfl (lv_at hl 4 rfl) ?_
                replace he := g_some he
                obtain ⟨hi16, he⟩ := he
                replace he := bv_ex he
                obtain ⟨V17, e17, he⟩ := he
                refine riast (cell' := (cC G) V17) C hd (lt_marr (by decide) 3 (by decide)) (cC_marr (by decide) 3 (by decide) (by decide)) hi16 (cC_marr_w (by decide) 3 (by decide) (by decide) e17) (cC_ne e17) dX3_set_101 (fun H locs hd => ?_)
                refine lv_goto (tgt := 128) hx hb dX3_set_102 (by decide) ?_
                refine lv_iload hx hb dX3_set_128 (lv_at hl 0 rfl) ?_
                exact retIe (cf := (cC G)) C hr hlk hd he dX3_set_130
              · replace he := ite_cases he
                rcases he with ⟨hc18, he⟩ | ⟨hc18, he⟩
                · refine rtabIn (k := 3) (off := 53) (tgt := 105) hx hb dX3_set_52 hc18 (by decide) (by decide) rfl (by decide) ?_
                  refine lv_aload_n hx hb dX3_set_105 rfl (lv_at hl 1 rfl) ?_
                  refine rgetf C hd (by decide) cC24 rfl tgX3 0 (by decide) uw199 rfl dX3_set_106 ?_
                  refine rgetf C hd (lt_moor (by decide)) (cC_moor (by decide)) rfl tgX0 7 (by decide) uw117 rfl dX3_set_109 ?_
                  refine lv_iload_n hx hb dX3_set_112 rfl (lv_at hl 2 rfl) ?_
                  refine lv_iload_n hx hb dX3_set_113 rfl (lv_at hl 4 rfl) ?_
                  replace he := g_some he
                  obtain ⟨hi19, he⟩ := he
                  replace he := bv_ex he
                  obtain ⟨V20, e20, he⟩ := he
                  refine riast (cell' := (cC G) V20) C hd (lt_marr (by decide) 4 (by decide)) (cC_marr (by decide) 4 (by decide) (by decide)) hi19 (cC_marr_w (by decide) 4 (by decide) (by decide) e20) (cC_ne e20) dX3_set_114 (fun H locs hd => ?_)
                  refine lv_goto (tgt := 128) hx hb dX3_set_115 (by decide) ?_
                  refine lv_iload hx hb dX3_set_128 (lv_at hl 0 rfl) ?_
                  exact retIe (cf := (cC G)) C hr hlk hd he dX3_set_130
                · refine lv_tableOut (tgt := 118) hx hb dX3_set_52 (tbl_out (fun k k1 k2 => by rcases (show k = 1 ∨ k = 2 ∨ k = 3 by omega) with rfl | rfl | rfl <;> first | exact hc13 | exact hc15 | exact hc18)) (by decide) ?_
                  refine lv_aload_n hx hb dX3_set_118 rfl (lv_at hl 1 rfl) ?_
                  refine rgetf C hd (by decide) cC24 rfl tgX3 0 (by decide) uw199 rfl dX3_set_119 ?_
                  refine rgetf C hd (lt_moor (by decide)) (cC_moor (by decide)) rfl tgX0 8 (by decide) uw120 rfl dX3_set_122 ?_
                  refine lv_iload_n hx hb dX3_set_125 rfl (lv_at hl 2 rfl) ?_
                  refine lv_iload_n hx hb dX3_set_126 rfl (lv_at hl 4 rfl) ?_
                  replace he := g_some he
                  obtain ⟨hi21, he⟩ := he
                  replace he := bv_ex he
                  obtain ⟨V22, e22, he⟩ := he
                  refine riast (cell' := (cC G) V22) C hd (lt_marr (by decide) 5 (by decide)) (cC_marr (by decide) 5 (by decide) (by decide)) hi21 (cC_marr_w (by decide) 5 (by decide) (by decide) e22) (cC_ne e22) dX3_set_127 (fun H locs hd => ?_)
                  refine lv_iload hx hb dX3_set_128 (lv_at hl 0 rfl) ?_
                  exact retIe (cf := (cC G)) C hr hlk hd he dX3_set_130
          · replace he := i_f hc11 he
            refine lv_aload_n hx hb dX3_set_33 rfl (lv_at hl 0 rfl) ?_
            refine lv_ldc hx hb hown (hts _ uw226) dX3_set_34 ?_
            replace he := b_some he
            obtain ⟨⟨r23, V23⟩, h23, he⟩ := he
            refine kVI C hd hl.1 kw_X3_46 (by decide) cC24 rfl (c_X3_finding l G ks hJ h23) ⟨Nat.le_of_ble_eq_true rfl, Nat.le_of_ble_eq_true rfl⟩ rfl (rest := []) rfl (Nat.le_of_ble_eq_true rfl) dX3_set_36 (fun H locs hd => ?_)
            exact retIe (cf := (cC G)) C hr hlk hd he dX3_set_39
set_option maxRecDepth 100000 in
set_option maxHeartbeats 4000000 in
theorem c_X3_turn (l : Launch) (G : Gd) (ks : Ks) (hJ : Inj 37 G.2.2) {a1 : Int32} {a2 : Int32} {V V' : VV} {r : Int32} (he : f_X3_turn a1 a2 V = some (r, V')) : MI l 37 G (XC G ks) yX3_turn cX3_turn 4 1 22 [.ref (G.2.2 24), .int a1, .int a2] (cC G V) (cC G V') r := by
  refine walk_of (own := RX3) (by decide) rfl hJ (xs_C G ks) (Nat.le_of_ble_eq_true rfl) ?_
  intro p e s m below meth c C hr hlk ls hl hd
  have hl : lv_has ls 4 [(0, .ref (G.2.2 24)), (1, .int a1), (2, .int a2)] := hl
  obtain ⟨⟨hx, hb, hml, hown, hts⟩, -⟩ := id C
  unfold f_X3_turn at he
  refine lv_aload_n hx hb dX3_turn_0 rfl (lv_at hl 0 rfl) ?_
  refine rgetf C hd (by decide) cC24 rfl tgX3 0 (by decide) uw199 rfl dX3_turn_1 ?_
  refine lv_iload_n hx hb dX3_turn_4 rfl (lv_at hl 1 rfl) ?_
  replace he := b_some he
  obtain ⟨⟨r1, V1⟩, h1, he⟩ := he
  refine kVZ C hd hl.1 kw_X3_76 (lt_moor (by decide)) (cC_moor (by decide)) rfl (c_X0_has l G ks hJ (by decide) h1) ⟨Nat.le_of_ble_eq_true rfl, Nat.le_of_ble_eq_true rfl⟩ rfl (rest := []) rfl (Nat.le_of_ble_eq_true rfl) dX3_turn_5 (fun H locs hz1 hd => ?_)
  refine lv_if_eq (tgt := 18) hx hb dX3_turn_8 (by decide) (fun hc2 => ?_) (fun hc2 => ?_)
  · replace he := i_t hc2 he
    refine lv_aload_n hx hb dX3_turn_18 rfl (lv_at hl 0 rfl) ?_
    refine lv_ldc hx hb hown (hts _ uw226) dX3_turn_19 ?_
    replace he := b_some he
    obtain ⟨⟨r3, V3⟩, h3, he⟩ := he
    refine kVI C hd hl.1 kw_X3_46 (by decide) cC24 rfl (c_X3_finding l G ks hJ h3) ⟨Nat.le_of_ble_eq_true rfl, Nat.le_of_ble_eq_true rfl⟩ rfl (rest := []) rfl (Nat.le_of_ble_eq_true rfl) dX3_turn_21 (fun H locs hd => ?_)
    exact retIe (cf := (cC G)) C hr hlk hd he dX3_turn_24
  · replace he := i_f hc2 he
    refine lv_iload_n hx hb dX3_turn_11 rfl (lv_at hl 2 rfl) ?_
    replace he := b_some he
    obtain ⟨⟨r4, V4⟩, h4, he⟩ := he
    refine kSZ C hd hl.1 kw_X3_64 (c_X3_isKind l G ks hJ h4) ⟨Nat.le_of_ble_eq_true rfl, Nat.le_of_ble_eq_true rfl⟩ rfl (rest := []) rfl (Nat.le_of_ble_eq_true rfl) dX3_turn_12 (fun H locs hz4 hd => ?_)
    refine lv_if_ne (tgt := 25) hx hb dX3_turn_15 (by decide) (fun hc5 => ?_) (fun hc5 => ?_)
    · replace he := i_f hc5 he
      refine lv_aload_n hx hb dX3_turn_25 rfl (lv_at hl 0 rfl) ?_
      refine rgetf C hd (by decide) cC24 rfl tgX3 0 (by decide) uw199 rfl dX3_turn_26 ?_
      refine rgetf C hd (lt_moor (by decide)) (cC_moor (by decide)) rfl tgX0 4 (by decide) uw110 rfl dX3_turn_29 ?_
      refine lv_iload_n hx hb dX3_turn_32 rfl (lv_at hl 1 rfl) ?_
      replace he := g_some he
      obtain ⟨hi6, he⟩ := he
      refine riald C hd (lt_marr (by decide) 1 (by decide)) (cC_marr (by decide) 1 (by decide) (by decide)) hi6 dX3_turn_33 ?_
      refine lv_istore_n (lv' := [(3, .int _), (0, .ref _), (1, .int _), (2, .int _)]) hx hb dX3_turn_34 rfl hl (by decide) rfl (fun ls hl => ?_)
      refine lv_aload_n hx hb dX3_turn_35 rfl (lv_at hl 1 rfl) ?_
      refine rgetf C hd (by decide) cC24 rfl tgX3 0 (by decide) uw199 rfl dX3_turn_36 ?_
      refine rgetf C hd (lt_moor (by decide)) (cC_moor (by decide)) rfl tgX0 4 (by decide) uw110 rfl dX3_turn_39 ?_
      refine lv_iload_n hx hb dX3_turn_42 rfl (lv_at hl 2 rfl) ?_
      refine lv_iload_n hx hb dX3_turn_43 rfl (lv_at hl 3 rfl) ?_
      replace he := g_some he
      obtain ⟨hi7, he⟩ := he
      replace he := bv_ex he
      obtain ⟨V8, e8, he⟩ := he
      refine riast (cell' := (cC G) V8) C hd (lt_marr (by decide) 1 (by decide)) (cC_marr (by decide) 1 (by decide) (by decide)) hi7 (cC_marr_w (by decide) 1 (by decide) (by decide) e8) (cC_ne e8) dX3_turn_44 (fun H locs hd => ?_)
      refine lv_iload_n hx hb dX3_turn_45 rfl (lv_at hl 0 rfl) ?_
      exact retIe (cf := (cC G)) C hr hlk hd he dX3_turn_46
    · replace he := i_t hc5 he
      refine lv_aload_n hx hb dX3_turn_18 rfl (lv_at hl 0 rfl) ?_
      refine lv_ldc hx hb hown (hts _ uw226) dX3_turn_19 ?_
      replace he := b_some he
      obtain ⟨⟨r9, V9⟩, h9, he⟩ := he
      refine kVI C hd hl.1 kw_X3_46 (by decide) cC24 rfl (c_X3_finding l G ks hJ h9) ⟨Nat.le_of_ble_eq_true rfl, Nat.le_of_ble_eq_true rfl⟩ rfl (rest := []) rfl (Nat.le_of_ble_eq_true rfl) dX3_turn_21 (fun H locs hd => ?_)
      exact retIe (cf := (cC G)) C hr hlk hd he dX3_turn_24
set_option maxRecDepth 100000 in
set_option maxHeartbeats 4000000 in
theorem c_X3_isOrIsUnder (l : Launch) (G : Gd) (ks : Ks) (hJ : Inj 37 G.2.2) {a1 : Int32} {a2 : Int32} {V V' : VV} {r : Int32} (he : f_X3_isOrIsUnder a1 a2 V = some (r, V')) : MZ l 37 G (XC G ks) yX3_isOrIsUnder cX3_isOrIsUnder 4 1 20 [.int a1, .int a2] (cC G V) (cC G V') r := by
  refine walk_of (own := RX3) (by decide) rfl hJ (xs_C G ks) (Nat.le_of_ble_eq_true rfl) ?_
  intro p e s m below meth c C hr hlk ls hl hd
  have hl : lv_has ls 4 [(0, .int a1), (1, .int a2)] := hl
  obtain ⟨⟨hx, hb, hml, hown, hts⟩, -⟩ := id C
  have L4 : ∀ (fuel : Nat), ∀ (x1 : Int32) (x2 : Int32) (x3 : Int32) (V : VV) (H : Heap) (locs : List Loc) (ls : Array Slot), lv_has ls 4 [(1, .int x1), (2, .int x2), (3, .int x3)] → Dy 37 G (cC G V) s H locs → f_X3_isOrIsUnder_L4 fuel x1 x2 x3 V = some (r, V') → W p l e (rmF 1 20) s m ([.int a1, .int a2] : List Value).toArray below meth c H locs 0 0 (MQ below (QI 37 G (cC G V') (fun r' => r' = r ∧ narrow .boolean (.int r) = .int r)) ([.int a1, .int a2] : List Value).toArray s 0 0 (inA 37 G.2.2)) (F0 m 4 ls []) := by
    intro fuel
    induction fuel with
    | zero => intro x1 x2 x3 V H locs ls hl hd he; simp [f_X3_isOrIsUnder_L4] at he
    | succ n ih4 =>
      intro x1 x2 x3 V H locs ls hl hd he
      rw [f_X3_isOrIsUnder_L4] at he
      refine lv_iload_n hx hb dX3_isOrIsUnder_4 rfl (lv_at hl 2 rfl) ?_
      refine lv_bipush (v := 6) hx hb dX3_isOrIsUnder_5 (by decide) ?_
      refine lv_icmp_ge (tgt := 36) hx hb dX3_isOrIsUnder_7 (by decide) (fun hc1 => ?_) (fun hc1 => ?_)
      · replace he := i_t hc1 he
        refine lv_iconst (v := 0) hx hb dX3_isOrIsUnder_36 (by decide) ?_
        exact retZe (cf := (cC G)) C hr hlk hd rfl he dX3_isOrIsUnder_37
      · replace he := i_f hc1 he
        refine lv_iload_n hx hb dX3_isOrIsUnder_10 rfl (lv_at hl 1 rfl) ?_
        replace he := b_some he
        obtain ⟨⟨r2, V2⟩, h2, he⟩ := he
        refine kSZ C hd hl.1 kw_X3_64 (c_X3_isKind l G ks hJ h2) ⟨Nat.le_of_ble_eq_true rfl, Nat.le_of_ble_eq_true rfl⟩ rfl (rest := []) rfl (Nat.le_of_ble_eq_true rfl) dX3_isOrIsUnder_11 (fun H locs hz2 hd => ?_)
        refine lv_if_eq (tgt := 36) hx hb dX3_isOrIsUnder_14 (by decide) (fun hc3 => ?_) (fun hc3 => ?_)
        · replace he := i_t hc3 he
          refine lv_iconst (v := 0) hx hb dX3_isOrIsUnder_36 (by decide) ?_
          exact retZe (cf := (cC G)) C hr hlk hd rfl he dX3_isOrIsUnder_37
        · replace he := i_f hc3 he
          refine lv_iload_n hx hb dX3_isOrIsUnder_17 rfl (lv_at hl 1 rfl) ?_
          refine lv_iload_n hx hb dX3_isOrIsUnder_18 rfl (lv_at hl 0 rfl) ?_
          refine lv_icmp_ne (tgt := 24) hx hb dX3_isOrIsUnder_19 (by decide) (fun hc4 => ?_) (fun hc4 => ?_)
          · replace he := i_f hc4 he
            refine va_gets hx hb C.2.2.2.2.1 hd.2 hown (hts _ kaw) (fun _ h => h) dX3_isOrIsUnder_24 ?_
            refine lv_iload_n hx hb dX3_isOrIsUnder_27 rfl (lv_at hl 1 rfl) ?_
            replace he := g_some he
            obtain ⟨hi5, he⟩ := he
            refine va_ti (v := .int (kaV _)) hx hb C.2.2.2.2.2.1 hd.2 (inb_in hi5) rfl dX3_isOrIsUnder_28 ?_
            refine lv_istore_n (lv' := [(2, .int _), (1, .int _), (3, .int _)]) hx hb dX3_isOrIsUnder_29 rfl hl (by decide) rfl (fun ls hl => ?_)
            refine lv_iinc (v := _ + 1) (lv' := [(3, .int _), (2, .int _), (1, .int _)]) hx hb dX3_isOrIsUnder_30 hl (k := 2) rfl rfl (by decide) rfl (fun ls hl => ?_)
            refine lv_goto (tgt := 4) hx hb dX3_isOrIsUnder_33 (by decide) ?_
            exact ih4 _ _ _ _ _ _ _ (lv_sub hl [2, 1, 0] rfl) hd he
          · replace he := i_t hc4 he
            refine lv_iconst (v := 1) hx hb dX3_isOrIsUnder_22 (by decide) ?_
            exact retZe (cf := (cC G)) C hr hlk hd rfl he dX3_isOrIsUnder_23
  unfold f_X3_isOrIsUnder at he
  refine lv_iload_n hx hb dX3_isOrIsUnder_0 rfl (lv_at hl 0 rfl) ?_
  refine lv_istore_n (lv' := [(2, .int _), (0, .int _), (1, .int _)]) hx hb dX3_isOrIsUnder_1 rfl hl (by decide) rfl (fun ls hl => ?_)
  refine lv_iconst (v := 0) hx hb dX3_isOrIsUnder_2 (by decide) ?_
  refine lv_istore_n (lv' := [(3, .int _), (2, .int _), (0, .int _), (1, .int _)]) hx hb dX3_isOrIsUnder_3 rfl hl (by decide) rfl (fun ls hl => ?_)
  exact L4 200 _ _ _ _ _ _ _ (lv_sub hl [3, 1, 0] rfl) hd he
set_option maxRecDepth 100000 in
set_option maxHeartbeats 4000000 in
theorem c_X3_as (l : Launch) (G : Gd) (ks : Ks) (hJ : Inj 37 G.2.2) {a1 : Int32} {a2 : Int32} {V V' : VV} {r : Int32} (he : f_X3_as a1 a2 V = some (r, V')) : MI l 37 G (XC G ks) yX3_as cX3_as 3 2 43 [.ref (G.2.2 24), .int a1, .int a2] (cC G V) (cC G V') r := by
  refine walk_of (own := RX3) (by decide) rfl hJ (xs_C G ks) (Nat.le_of_ble_eq_true rfl) ?_
  intro p e s m below meth c C hr hlk ls hl hd
  have hl : lv_has ls 3 [(0, .ref (G.2.2 24)), (1, .int a1), (2, .int a2)] := hl
  obtain ⟨⟨hx, hb, hml, hown, hts⟩, -⟩ := id C
  unfold f_X3_as at he
  refine lv_aload_n hx hb dX3_as_0 rfl (lv_at hl 0 rfl) ?_
  refine rgetf C hd (by decide) cC24 rfl tgX3 0 (by decide) uw199 rfl dX3_as_1 ?_
  refine lv_iload_n hx hb dX3_as_4 rfl (lv_at hl 1 rfl) ?_
  replace he := b_some he
  obtain ⟨⟨r1, V1⟩, h1, he⟩ := he
  refine kVZ C hd hl.1 kw_X3_76 (lt_moor (by decide)) (cC_moor (by decide)) rfl (c_X0_has l G ks hJ (by decide) h1) ⟨Nat.le_of_ble_eq_true rfl, Nat.le_of_ble_eq_true rfl⟩ rfl (rest := []) rfl (Nat.le_of_ble_eq_true rfl) dX3_as_5 (fun H locs hz1 hd => ?_)
  refine lv_if_eq (tgt := 18) hx hb dX3_as_8 (by decide) (fun hc2 => ?_) (fun hc2 => ?_)
  · replace he := i_t hc2 he
    refine lv_aload_n hx hb dX3_as_18 rfl (lv_at hl 0 rfl) ?_
    refine lv_ldc hx hb hown (hts _ uw226) dX3_as_19 ?_
    replace he := b_some he
    obtain ⟨⟨r3, V3⟩, h3, he⟩ := he
    refine kVI C hd hl.1 kw_X3_46 (by decide) cC24 rfl (c_X3_finding l G ks hJ h3) ⟨Nat.le_of_ble_eq_true rfl, Nat.le_of_ble_eq_true rfl⟩ rfl (rest := []) rfl (Nat.le_of_ble_eq_true rfl) dX3_as_21 (fun H locs hd => ?_)
    exact retIe (cf := (cC G)) C hr hlk hd he dX3_as_24
  · replace he := i_f hc2 he
    refine lv_iload_n hx hb dX3_as_11 rfl (lv_at hl 2 rfl) ?_
    replace he := b_some he
    obtain ⟨⟨r4, V4⟩, h4, he⟩ := he
    refine kSZ C hd hl.1 kw_X3_64 (c_X3_isKind l G ks hJ h4) ⟨Nat.le_of_ble_eq_true rfl, Nat.le_of_ble_eq_true rfl⟩ rfl (rest := []) rfl (Nat.le_of_ble_eq_true rfl) dX3_as_12 (fun H locs hz4 hd => ?_)
    refine lv_if_ne (tgt := 25) hx hb dX3_as_15 (by decide) (fun hc5 => ?_) (fun hc5 => ?_)
    · replace he := i_f hc5 he
      refine lv_aload_n hx hb dX3_as_25 rfl (lv_at hl 0 rfl) ?_
      refine rgetf C hd (by decide) cC24 rfl tgX3 0 (by decide) uw199 rfl dX3_as_26 ?_
      refine rgetf C hd (lt_moor (by decide)) (cC_moor (by decide)) rfl tgX0 4 (by decide) uw110 rfl dX3_as_29 ?_
      refine lv_iload_n hx hb dX3_as_32 rfl (lv_at hl 1 rfl) ?_
      replace he := g_some he
      obtain ⟨hi6, he⟩ := he
      refine riald C hd (lt_marr (by decide) 1 (by decide)) (cC_marr (by decide) 1 (by decide) (by decide)) hi6 dX3_as_33 ?_
      refine lv_iload_n hx hb dX3_as_34 rfl (lv_at hl 2 rfl) ?_
      replace he := b_some he
      obtain ⟨⟨r7, V7⟩, h7, he⟩ := he
      refine kSZ C hd hl.1 kw_X3_101 (c_X3_isOrIsUnder l G ks hJ h7) ⟨Nat.le_of_ble_eq_true rfl, Nat.le_of_ble_eq_true rfl⟩ rfl (rest := []) rfl (Nat.le_of_ble_eq_true rfl) dX3_as_35 (fun H locs hz7 hd => ?_)
      refine lv_if_ne (tgt := 48) hx hb dX3_as_38 (by decide) (fun hc8 => ?_) (fun hc8 => ?_)
      · replace he := i_f hc8 he
        refine lv_aload_n hx hb dX3_as_48 rfl (lv_at hl 0 rfl) ?_
        refine rgetf C hd (by decide) cC24 rfl tgX3 0 (by decide) uw199 rfl dX3_as_49 ?_
        refine rgetf C hd (lt_moor (by decide)) (cC_moor (by decide)) rfl tgX0 8 (by decide) uw120 rfl dX3_as_52 ?_
        refine lv_iload_n hx hb dX3_as_55 rfl (lv_at hl 1 rfl) ?_
        replace he := g_some he
        obtain ⟨hi9, he⟩ := he
        refine riald C hd (lt_marr (by decide) 5 (by decide)) (cC_marr (by decide) 5 (by decide) (by decide)) hi9 dX3_as_56 ?_
        exact retIe (cf := (cC G)) C hr hlk hd he dX3_as_57
      · replace he := i_t hc8 he
        refine lv_aload_n hx hb dX3_as_41 rfl (lv_at hl 0 rfl) ?_
        refine lv_ldc hx hb hown (hts _ uw316) dX3_as_42 ?_
        replace he := b_some he
        obtain ⟨⟨r10, V10⟩, h10, he⟩ := he
        refine kVI C hd hl.1 kw_X3_46 (by decide) cC24 rfl (c_X3_finding l G ks hJ h10) ⟨Nat.le_of_ble_eq_true rfl, Nat.le_of_ble_eq_true rfl⟩ rfl (rest := []) rfl (Nat.le_of_ble_eq_true rfl) dX3_as_44 (fun H locs hd => ?_)
        exact retIe (cf := (cC G)) C hr hlk hd he dX3_as_47
    · replace he := i_t hc5 he
      refine lv_aload_n hx hb dX3_as_18 rfl (lv_at hl 0 rfl) ?_
      refine lv_ldc hx hb hown (hts _ uw226) dX3_as_19 ?_
      replace he := b_some he
      obtain ⟨⟨r11, V11⟩, h11, he⟩ := he
      refine kVI C hd hl.1 kw_X3_46 (by decide) cC24 rfl (c_X3_finding l G ks hJ h11) ⟨Nat.le_of_ble_eq_true rfl, Nat.le_of_ble_eq_true rfl⟩ rfl (rest := []) rfl (Nat.le_of_ble_eq_true rfl) dX3_as_21 (fun H locs hd => ?_)
      exact retIe (cf := (cC G)) C hr hlk hd he dX3_as_24
set_option maxRecDepth 100000 in
set_option maxHeartbeats 4000000 in
theorem c_X0_isFree (l : Launch) (G : Gd) (ks : Ks) (hJ : Inj 37 G.2.2) {j : Nat} {a1 : Int32} (hj : j < 3) {V V' : VV} {r : Int32} (he : f_X0_isFree j a1 V = some (r, V')) : MZ l 37 G (XC G ks) yX0_isFree cX0_isFree 2 0 0 [.ref (G.2.2 (8 * j)), .int a1] (cC G V) (cC G V') r := by
  refine walk_of (own := RX0) (by decide) rfl hJ (xs_C G ks) (Nat.le_of_ble_eq_true rfl) ?_
  intro p e s m below meth c C hr hlk ls hl hd
  have hl : lv_has ls 2 [(0, .ref (G.2.2 (8 * j))), (1, .int a1)] := hl
  obtain ⟨⟨hx, hb, hml, hown, hts⟩, -⟩ := id C
  unfold f_X0_isFree at he
  refine lv_aload_n hx hb dX0_isFree_0 rfl (lv_at hl 0 rfl) ?_
  refine rgetf C hd (lt_moor hj) (cC_moor hj) rfl tgX0 9 (by decide) uw121 rfl dX0_isFree_1 ?_
  refine lv_iload_n hx hb dX0_isFree_4 rfl (lv_at hl 1 rfl) ?_
  replace he := g_some he
  obtain ⟨hi1, he⟩ := he
  refine riald C hd (lt_marr hj 6 (by decide)) (cC_marr hj 6 (by decide) (by decide)) hi1 dX0_isFree_5 ?_
  refine lv_iconst (v := (-1)) hx hb dX0_isFree_6 (by decide) ?_
  refine lv_icmp_ne (tgt := 14) hx hb dX0_isFree_7 (by decide) (fun hc2 => ?_) (fun hc2 => ?_)
  · replace he := i_f hc2 he
    refine lv_iconst (v := 0) hx hb dX0_isFree_14 (by decide) ?_
    exact retZe (cf := (cC G)) C hr hlk hd rfl he dX0_isFree_15
  · replace he := i_t hc2 he
    refine lv_iconst (v := 1) hx hb dX0_isFree_10 (by decide) ?_
    refine lv_goto (tgt := 15) hx hb dX0_isFree_11 (by decide) ?_
    exact retZe (cf := (cC G)) C hr hlk hd rfl he dX0_isFree_15
