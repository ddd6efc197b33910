set_option maxRecDepth 100000 in
set_option maxHeartbeats 4000000 in
theorem c_X2_takeWalker (l : Launch) (G : Gd) (ks : Ks) (hJ : Inj 37 G.2.2) {i : Nat} {a2 : Int32} (hi : i < 3) {V V' : VV} {r : Int32} (he : f_X2_takeWalker i a2 V = some (r, V')) : MZ l 37 G (XC G ks) yX2_takeWalker cX2_takeWalker 4 6 128 [.ref (G.2.2 25), .ref (G.2.2 (8 * i)), .int a2] (cC G V) (cC G V') r := by
  refine walk_of (own := RX2) (by decide) rfl hJ (xs_C G ks) (Nat.le_of_ble_eq_true rfl) ?_
  intro p e s m below meth c C hr hlk ls hl hd
  have hl : lv_has ls 4 [(0, .ref (G.2.2 25)), (1, .ref (G.2.2 (8 * i))), (2, .int a2)] := hl
  obtain ⟨⟨hx, hb, hml, hown, hts⟩, -⟩ := id C
  unfold f_X2_takeWalker at he
  refine lv_aload_n hx hb dX2_takeWalker_0 rfl (lv_at hl 1 rfl) ?_
  replace he := b_some he
  obtain ⟨⟨r1, V1⟩, h1, he⟩ := he
  refine kVZ C hd hl.1 kw_X2_72 (lt_moor hi) (cC_moor hi) rfl (c_X0_hasRoom l G ks hJ hi h1) ⟨Nat.le_of_ble_eq_true rfl, Nat.le_of_ble_eq_true rfl⟩ rfl (rest := []) rfl (Nat.le_of_ble_eq_true rfl) dX2_takeWalker_1 (fun H locs hz1 hd => ?_)
  refine lv_if_ne (tgt := 9) hx hb dX2_takeWalker_4 (by decide) (fun hc2 => ?_) (fun hc2 => ?_)
  · replace he := i_f hc2 he
    refine lv_aload_n hx hb dX2_takeWalker_9 rfl (lv_at hl 0 rfl) ?_
    replace he := b_some he
    obtain ⟨V3, h3, he⟩ := he
    refine kVV C hd hl.1 kw_X2_34 (by decide) cC25 rfl (c_X2_look l G ks hJ h3) ⟨Nat.le_of_ble_eq_true rfl, Nat.le_of_ble_eq_true rfl⟩ rfl (rest := []) rfl (Nat.le_of_ble_eq_true rfl) dX2_takeWalker_10 (fun H locs hd => ?_)
    refine lv_aload_n hx hb dX2_takeWalker_13 rfl (lv_at hl 0 rfl) ?_
    refine va_ldcS hx hb hown (C.2.2.2.2.2.2.2.1 9 (by decide)) dX2_takeWalker_14 ?_
    replace he := b_some he
    obtain ⟨⟨r4, V4⟩, h4, he⟩ := he
    refine kVZ C hd hl.1 kw_X2_51 (by decide) cC25 rfl (c_X2_takeWord l G ks hJ (by decide) h4) ⟨Nat.le_of_ble_eq_true rfl, Nat.le_of_ble_eq_true rfl⟩ rfl (rest := []) rfl (Nat.le_of_ble_eq_true rfl) dX2_takeWalker_16 (fun H locs hz4 hd => ?_)
    refine lv_if_eq (tgt := 32) hx hb dX2_takeWalker_19 (by decide) (fun hc5 => ?_) (fun hc5 => ?_)
    · replace he := i_t hc5 he
      refine lv_iconst (v := 0) hx hb dX2_takeWalker_32 (by decide) ?_
      exact retZe (cf := (cC G)) C hr hlk hd rfl he dX2_takeWalker_33
    · replace he := i_f hc5 he
      refine lv_aload_n hx hb dX2_takeWalker_22 rfl (lv_at hl 0 rfl) ?_
      refine lv_iconst (v := 0) hx hb dX2_takeWalker_23 (by decide) ?_
      refine lv_bipush (v := 35) hx hb dX2_takeWalker_24 (by decide) ?_
      replace he := b_some he
      obtain ⟨⟨r6, V6⟩, h6, he⟩ := he
      refine kVZ C hd hl.1 kw_X2_63 (by decide) cC25 rfl (c_X2_takeNumber l G ks hJ h6) ⟨Nat.le_of_ble_eq_true rfl, Nat.le_of_ble_eq_true rfl⟩ rfl (rest := []) rfl (Nat.le_of_ble_eq_true rfl) dX2_takeWalker_26 (fun H locs hz6 hd => ?_)
      refine lv_if_ne (tgt := 34) hx hb dX2_takeWalker_29 (by decide) (fun hc7 => ?_) (fun hc7 => ?_)
      · replace he := i_f hc7 he
        refine lv_aload_n hx hb dX2_takeWalker_34 rfl (lv_at hl 1 rfl) ?_
        refine lv_iload_n hx hb dX2_takeWalker_35 rfl (lv_at hl 2 rfl) ?_
        refine lv_aload_n hx hb dX2_takeWalker_36 rfl (lv_at hl 0 rfl) ?_
        refine rgetf C hd (by decide) cC25 rfl tgX2 6 (by decide) uw162 rfl dX2_takeWalker_37 ?_
        replace he := b_some he
        obtain ⟨⟨r8, V8⟩, h8, he⟩ := he
        refine kVI C hd hl.1 kw_X2_78 (lt_moor hi) (cC_moor hi) rfl (c_X0_come l G ks hJ hi h8) ⟨Nat.le_of_ble_eq_true rfl, Nat.le_of_ble_eq_true rfl⟩ rfl (rest := []) rfl (Nat.le_of_ble_eq_true rfl) dX2_takeWalker_40 (fun H locs hd => ?_)
        refine lv_istore_n (lv' := [(3, .int _), (0, .ref _), (1, .ref _), (2, .int _)]) hx hb dX2_takeWalker_43 rfl hl (by decide) rfl (fun ls hl => ?_)
        refine lv_aload_n hx hb dX2_takeWalker_44 rfl (lv_at hl 2 rfl) ?_
        refine lv_iload_n hx hb dX2_takeWalker_45 rfl (lv_at hl 0 rfl) ?_
        replace he := b_some he
        obtain ⟨⟨r9, V9⟩, h9, he⟩ := he
        refine kVZ C hd hl.1 kw_X2_82 (lt_moor hi) (cC_moor hi) rfl (c_X0_has l G ks hJ hi h9) ⟨Nat.le_of_ble_eq_true rfl, Nat.le_of_ble_eq_true rfl⟩ rfl (rest := []) rfl (Nat.le_of_ble_eq_true rfl) dX2_takeWalker_46 (fun H locs hz9 hd => ?_)
        refine lv_if_ne (tgt := 54) hx hb dX2_takeWalker_49 (by decide) (fun hc10 => ?_) (fun hc10 => ?_)
        · replace he := i_f hc10 he
          refine lv_aload_n hx hb dX2_takeWalker_54 rfl (lv_at hl 1 rfl) ?_
          refine va_ldcS hx hb hown (C.2.2.2.2.2.2.2.1 10 (by decide)) dX2_takeWalker_55 ?_
          replace he := b_some he
          obtain ⟨⟨r11, V11⟩, h11, he⟩ := he
          refine kVZ C hd hl.1 kw_X2_51 (by decide) cC25 rfl (c_X2_takeWord l G ks hJ (by decide) h11) ⟨Nat.le_of_ble_eq_true rfl, Nat.le_of_ble_eq_true rfl⟩ rfl (rest := []) rfl (Nat.le_of_ble_eq_true rfl) dX2_takeWalker_57 (fun H locs hz11 hd => ?_)
          refine lv_if_eq (tgt := 84) hx hb dX2_takeWalker_60 (by decide) (fun hc12 => ?_) (fun hc12 => ?_)
          · replace he := i_t hc12 he
            refine lv_aload_n hx hb dX2_takeWalker_84 rfl (lv_at hl 1 rfl) ?_
            refine va_ldcS hx hb hown (C.2.2.2.2.2.2.2.1 11 (by decide)) dX2_takeWalker_85 ?_
            replace he := b_some he
            obtain ⟨⟨r13, V13⟩, h13, he⟩ := he
            refine kVZ C hd hl.1 kw_X2_51 (by decide) cC25 rfl (c_X2_takeWord l G ks hJ (by decide) h13) ⟨Nat.le_of_ble_eq_true rfl, Nat.le_of_ble_eq_true rfl⟩ rfl (rest := []) rfl (Nat.le_of_ble_eq_true rfl) dX2_takeWalker_87 (fun H locs hz13 hd => ?_)
            refine lv_if_eq (tgt := 115) hx hb dX2_takeWalker_90 (by decide) (fun hc14 => ?_) (fun hc14 => ?_)
            · replace he := i_t hc14 he
              refine lv_iconst (v := 1) hx hb dX2_takeWalker_115 (by decide) ?_
              exact retZe (cf := (cC G)) C hr hlk hd rfl he dX2_takeWalker_116
            · replace he := i_f hc14 he
              refine lv_aload_n hx hb dX2_takeWalker_93 rfl (lv_at hl 1 rfl) ?_
              refine lv_iconst (v := 0) hx hb dX2_takeWalker_94 (by decide) ?_
              refine lv_bipush (v := 15) hx hb dX2_takeWalker_95 (by decide) ?_
              replace he := b_some he
              obtain ⟨⟨r15, V15⟩, h15, he⟩ := he
              refine kVZ C hd hl.1 kw_X2_63 (by decide) cC25 rfl (c_X2_takeNumber l G ks hJ h15) ⟨Nat.le_of_ble_eq_true rfl, Nat.le_of_ble_eq_true rfl⟩ rfl (rest := []) rfl (Nat.le_of_ble_eq_true rfl) dX2_takeWalker_97 (fun H locs hz15 hd => ?_)
              refine lv_if_ne (tgt := 105) hx hb dX2_takeWalker_100 (by decide) (fun hc16 => ?_) (fun hc16 => ?_)
              · replace he := i_f hc16 he
                refine lv_aload_n hx hb dX2_takeWalker_105 rfl (lv_at hl 2 rfl) ?_
                refine rgetf C hd (lt_moor hi) (cC_moor hi) rfl tgX0 8 (by decide) uw119 rfl dX2_takeWalker_106 ?_
                refine lv_iload_n hx hb dX2_takeWalker_109 rfl (lv_at hl 0 rfl) ?_
                refine lv_aload_n hx hb dX2_takeWalker_110 rfl (lv_at hl 1 rfl) ?_
                refine rgetf C hd (by decide) cC25 rfl tgX2 6 (by decide) uw162 rfl dX2_takeWalker_111 ?_
                replace he := g_some he
                obtain ⟨hi17, he⟩ := he
                replace he := bv_ex he
                obtain ⟨V18, e18, he⟩ := he
                refine riast (cell' := (cC G) V18) C hd (lt_marr hi 5 (by decide)) (cC_marr hi 5 (by decide) (by decide)) hi17 (cC_marr_w hi 5 (by decide) (by decide) e18) (cC_ne e18) dX2_takeWalker_114 (fun H locs hd => ?_)
                refine lv_iconst (v := 1) hx hb dX2_takeWalker_115 (by decide) ?_
                exact retZe (cf := (cC G)) C hr hlk hd rfl he dX2_takeWalker_116
              · replace he := i_t hc16 he
                refine lv_iconst (v := 0) hx hb dX2_takeWalker_103 (by decide) ?_
                exact retZe (cf := (cC G)) C hr hlk hd rfl he dX2_takeWalker_104
          · replace he := i_f hc12 he
            refine lv_aload_n hx hb dX2_takeWalker_63 rfl (lv_at hl 1 rfl) ?_
            refine lv_iconst (v := 0) hx hb dX2_takeWalker_64 (by decide) ?_
            refine lv_iconst (v := 3) hx hb dX2_takeWalker_65 (by decide) ?_
            replace he := b_some he
            obtain ⟨⟨r19, V19⟩, h19, he⟩ := he
            refine kVZ C hd hl.1 kw_X2_63 (by decide) cC25 rfl (c_X2_takeNumber l G ks hJ h19) ⟨Nat.le_of_ble_eq_true rfl, Nat.le_of_ble_eq_true rfl⟩ rfl (rest := []) rfl (Nat.le_of_ble_eq_true rfl) dX2_takeWalker_66 (fun H locs hz19 hd => ?_)
            refine lv_if_ne (tgt := 74) hx hb dX2_takeWalker_69 (by decide) (fun hc20 => ?_) (fun hc20 => ?_)
            · replace he := i_f hc20 he
              refine lv_aload_n hx hb dX2_takeWalker_74 rfl (lv_at hl 2 rfl) ?_
              refine rgetf C hd (lt_moor hi) (cC_moor hi) rfl tgX0 7 (by decide) uw116 rfl dX2_takeWalker_75 ?_
              refine lv_iload_n hx hb dX2_takeWalker_78 rfl (lv_at hl 0 rfl) ?_
              refine lv_aload_n hx hb dX2_takeWalker_79 rfl (lv_at hl 1 rfl) ?_
              refine rgetf C hd (by decide) cC25 rfl tgX2 6 (by decide) uw162 rfl dX2_takeWalker_80 ?_
              replace he := g_some he
              obtain ⟨hi21, he⟩ := he
              replace he := bv_ex he
              obtain ⟨V22, e22, he⟩ := he
              refine riast (cell' := (cC G) V22) C hd (lt_marr hi 4 (by decide)) (cC_marr hi 4 (by decide) (by decide)) hi21 (cC_marr_w hi 4 (by decide) (by decide) e22) (cC_ne e22) dX2_takeWalker_83 (fun H locs hd => ?_)
              refine lv_aload_n hx hb dX2_takeWalker_84 rfl (lv_at hl 1 rfl) ?_
              refine va_ldcS hx hb hown (C.2.2.2.2.2.2.2.1 11 (by decide)) dX2_takeWalker_85 ?_
              replace he := b_some he
              obtain ⟨⟨r23, V23⟩, h23, he⟩ := he
              refine kVZ C hd hl.1 kw_X2_51 (by decide) cC25 rfl (c_X2_takeWord l G ks hJ (by decide) h23) ⟨Nat.le_of_ble_eq_true rfl, Nat.le_of_ble_eq_true rfl⟩ rfl (rest := []) rfl (Nat.le_of_ble_eq_true rfl) dX2_takeWalker_87 (fun H locs hz23 hd => ?_)
              refine lv_if_eq (tgt := 115) hx hb dX2_takeWalker_90 (by decide) (fun hc24 => ?_) (fun hc24 => ?_)
              · replace he := i_t hc24 he
                refine lv_iconst (v := 1) hx hb dX2_takeWalker_115 (by decide) ?_
                exact retZe (cf := (cC G)) C hr hlk hd rfl he dX2_takeWalker_116
              · replace he := i_f hc24 he
                refine lv_aload_n hx hb dX2_takeWalker_93 rfl (lv_at hl 1 rfl) ?_
                refine lv_iconst (v := 0) hx hb dX2_takeWalker_94 (by decide) ?_
                refine lv_bipush (v := 15) hx hb dX2_takeWalker_95 (by decide) ?_
                replace he := b_some he
                obtain ⟨⟨r25, V25⟩, h25, he⟩ := he
                refine kVZ C hd hl.1 kw_X2_63 (by decide) cC25 rfl (c_X2_takeNumber l G ks hJ h25) ⟨Nat.le_of_ble_eq_true rfl, Nat.le_of_ble_eq_true rfl⟩ rfl (rest := []) rfl (Nat.le_of_ble_eq_true rfl) dX2_takeWalker_97 (fun H locs hz25 hd => ?_)
                refine lv_if_ne (tgt := 105) hx hb dX2_takeWalker_100 (by decide) (fun hc26 => ?_) (fun hc26 => ?_)
                · replace he := i_f hc26 he
                  refine lv_aload_n hx hb dX2_takeWalker_105 rfl (lv_at hl 2 rfl) ?_
                  refine rgetf C hd (lt_moor hi) (cC_moor hi) rfl tgX0 8 (by decide) uw119 rfl dX2_takeWalker_106 ?_
                  refine lv_iload_n hx hb dX2_takeWalker_109 rfl (lv_at hl 0 rfl) ?_
                  refine lv_aload_n hx hb dX2_takeWalker_110 rfl (lv_at hl 1 rfl) ?_
                  refine rgetf C hd (by decide) cC25 rfl tgX2 6 (by decide) uw162 rfl dX2_takeWalker_111 ?_
                  replace he := g_some he
                  obtain ⟨hi27, he⟩ := he
                  replace he := bv_ex he
                  obtain ⟨V28, e28, he⟩ := he
                  refine riast (cell' := (cC G) V28) C hd (lt_marr hi 5 (by decide)) (cC_marr hi 5 (by decide) (by decide)) hi27 (cC_marr_w hi 5 (by decide) (by decide) e28) (cC_ne e28) dX2_takeWalker_114 (fun H locs hd => ?_)
                  refine lv_iconst (v := 1) hx hb dX2_takeWalker_115 (by decide) ?_
                  exact retZe (cf := (cC G)) C hr hlk hd rfl he dX2_takeWalker_116
                · replace he := i_t hc26 he
                  refine lv_iconst (v := 0) hx hb dX2_takeWalker_103 (by decide) ?_
                  exact retZe (cf := (cC G)) C hr hlk hd rfl he dX2_takeWalker_104
            · replace he := i_t hc20 he
              refine lv_iconst (v := 0) hx hb dX2_takeWalker_72 (by decide) ?_
              exact retZe (cf := (cC G)) C hr hlk hd rfl he dX2_takeWalker_73
        · replace he := i_t hc10 he
          refine lv_iconst (v := 0) hx hb dX2_takeWalker_52 (by decide) ?_
          exact retZe (cf := (cC G)) C hr hlk hd rfl he dX2_takeWalker_53
      · replace he := i_t hc7 he
        refine lv_iconst (v := 0) hx hb dX2_takeWalker_32 (by decide) ?_
        exact retZe (cf := (cC G)) C hr hlk hd rfl he dX2_takeWalker_33
  · replace he := i_t hc2 he
    refine lv_iconst (v := 0) hx hb dX2_takeWalker_7 (by decide) ?_
    exact retZe (cf := (cC G)) C hr hlk hd rfl he dX2_takeWalker_8
set_option maxRecDepth 100000 in
set_option maxHeartbeats 4000000 in
theorem c_X2_takeDayHours (l : Launch) (G : Gd) (ks : Ks) (hJ : Inj 37 G.2.2) {i : Nat} {a2 : Int32} (hi : i < 3) {V V' : VV} {r : Int32} (he : f_X2_takeDayHours i a2 V = some (r, V')) : MZ l 37 G (XC G ks) yX2_takeDayHours cX2_takeDayHours 5 6 128 [.ref (G.2.2 25), .ref (G.2.2 (8 * i)), .int a2] (cC G V) (cC G V') r := by
  refine walk_of (own := RX2) (by decide) rfl hJ (xs_C G ks) (Nat.le_of_ble_eq_true rfl) ?_
  intro p e s m below meth c C hr hlk ls hl hd
  have hl : lv_has ls 5 [(0, .ref (G.2.2 25)), (1, .ref (G.2.2 (8 * i))), (2, .int a2)] := hl
  obtain ⟨⟨hx, hb, hml, hown, hts⟩, -⟩ := id C
  have L41 : ∀ (fuel : Nat), ∀ (x2 : Int32) (x4 : Int32) (V : VV) (H : Heap) (locs : List Loc) (ls : Array Slot), lv_has ls 5 [(0, .ref (G.2.2 25)), (1, .ref (G.2.2 (8 * i))), (2, .int x2), (4, .int x4)] → Dy 37 G (cC G V) s H locs → f_X2_takeDayHours_L41 i fuel x2 x4 V = some (r, V') → W p l e (rmF 6 128) s m ([.ref (G.2.2 25), .ref (G.2.2 (8 * i)), .int a2] : List Value).toArray below meth c H locs 0 0 (MQ below (QI 37 G (cC G V') (fun r' => r' = r ∧ narrow .boolean (.int r) = .int r)) ([.ref (G.2.2 25), .ref (G.2.2 (8 * i)), .int a2] : List Value).toArray s 0 0 (inA 37 G.2.2)) (F0 m 41 ls []) := by
    intro fuel
    induction fuel with
    | zero => intro x2 x4 V H locs ls hl hd he; simp [f_X2_takeDayHours_L41] at he
    | succ n ih41 =>
      intro x2 x4 V H locs ls hl hd he
      rw [f_X2_takeDayHours_L41] at he
      refine lv_iload hx hb dX2_takeDayHours_41 (lv_at hl 3 rfl) ?_
      refine lv_aload_n hx hb dX2_takeDayHours_43 rfl (lv_at hl 0 rfl) ?_
      refine rgetf C hd (by decide) cC25 rfl tgX2 6 (by decide) uw162 rfl dX2_takeDayHours_44 ?_
      refine lv_icmp_gt (tgt := 91) hx hb dX2_takeDayHours_47 (by decide) (fun hc5 => ?_) (fun hc5 => ?_)
      · replace he := i_t hc5 he
        refine lv_iconst (v := 1) hx hb dX2_takeDayHours_91 (by decide) ?_
        exact retZe (cf := (cC G)) C hr hlk hd rfl he dX2_takeDayHours_92
      · replace he := i_f hc5 he
        refine lv_iload_n hx hb dX2_takeDayHours_50 rfl (lv_at hl 2 rfl) ?_
        refine lv_if_eq (tgt := 70) hx hb dX2_takeDayHours_51 (by decide) (fun hc6 => ?_) (fun hc6 => ?_)
        · replace he := i_t hc6 he
          refine lv_aload_n hx hb dX2_takeDayHours_70 rfl (lv_at hl 1 rfl) ?_
          refine lv_dup hx hb dX2_takeDayHours_71 rfl ?_
          refine rgetf C hd (lt_moor hi) (cC_moor hi) rfl tgX0 1 (by decide) uw103 rfl dX2_takeDayHours_72 ?_
          refine lv_iconst (v := 1) hx hb dX2_takeDayHours_75 (by decide) ?_
          refine lv_iload hx hb dX2_takeDayHours_76 (lv_at hl 3 rfl) ?_
          refine lv_ishl hx hb dX2_takeDayHours_78 ?_
          refine lv_iconst (v := (-1)) hx hb dX2_takeDayHours_79 (by decide) ?_
          refine lv_ixor hx hb dX2_takeDayHours_80 ?_
          refine lv_iand hx hb dX2_takeDayHours_81 ?_
          replace he := bv_ex he
          obtain ⟨V7, e7, he⟩ := he
          refine rputf (cell' := (cC G) V7) C hd (lt_moor hi) (cC_moor hi) rfl tgX0 tyX0 tyX0_ok nmX0 1 (by decide) uw103 rfl (tyX0_ok 1 (by decide)) rfl rfl (Nat.le_of_ble_eq_true rfl) (cC_moor_w hi (by decide) e7) (cC_ne e7) dX2_takeDayHours_82 (fun H locs hd => ?_)
          refine lv_iinc (v := _ + 1) (lv' := [(4, .int _), (0, .ref _), (1, .ref _), (2, .int _)]) hx hb dX2_takeDayHours_85 hl (k := 3) rfl rfl (by decide) rfl (fun ls hl => ?_)
          refine lv_goto (tgt := 41) hx hb dX2_takeDayHours_88 (by decide) ?_
          exact ih41 _ _ _ _ _ _ (lv_sub hl [1, 2, 3, 0] rfl) hd he
        · replace he := i_f hc6 he
          refine lv_aload_n hx hb dX2_takeDayHours_54 rfl (lv_at hl 1 rfl) ?_
          refine lv_dup hx hb dX2_takeDayHours_55 rfl ?_
          refine rgetf C hd (lt_moor hi) (cC_moor hi) rfl tgX0 1 (by decide) uw103 rfl dX2_takeDayHours_56 ?_
          refine lv_iconst (v := 1) hx hb dX2_takeDayHours_59 (by decide) ?_
          refine lv_iload hx hb dX2_takeDayHours_60 (lv_at hl 3 rfl) ?_
          refine lv_ishl hx hb dX2_takeDayHours_62 ?_
          refine lv_ior hx hb dX2_takeDayHours_63 ?_
          replace he := bv_ex he
          obtain ⟨V8, e8, he⟩ := he
          refine rputf (cell' := (cC G) V8) C hd (lt_moor hi) (cC_moor hi) rfl tgX0 tyX0 tyX0_ok nmX0 1 (by decide) uw103 rfl (tyX0_ok 1 (by decide)) rfl rfl (Nat.le_of_ble_eq_true rfl) (cC_moor_w hi (by decide) e8) (cC_ne e8) dX2_takeDayHours_64 (fun H locs hd => ?_)
          refine lv_goto (tgt := 85) hx hb dX2_takeDayHours_67 (by decide) ?_
          refine lv_iinc (v := _ + 1) (lv' := [(4, .int _), (0, .ref _), (1, .ref _), (2, .int _)]) hx hb dX2_takeDayHours_85 hl (k := 3) rfl rfl (by decide) rfl (fun ls hl => ?_)
          refine lv_goto (tgt := 41) hx hb dX2_takeDayHours_88 (by decide) ?_
          exact ih41 _ _ _ _ _ _ (lv_sub hl [1, 2, 3, 0] rfl) hd he
  unfold f_X2_takeDayHours at he
  refine lv_aload_n hx hb dX2_takeDayHours_0 rfl (lv_at hl 0 rfl) ?_
  refine lv_iconst (v := 0) hx hb dX2_takeDayHours_1 (by decide) ?_
  refine lv_bipush (v := 23) hx hb dX2_takeDayHours_2 (by decide) ?_
  replace he := b_some he
  obtain ⟨⟨r1, V1⟩, h1, he⟩ := he
  refine kVZ C hd hl.1 kw_X2_63 (by decide) cC25 rfl (c_X2_takeNumber l G ks hJ h1) ⟨Nat.le_of_ble_eq_true rfl, Nat.le_of_ble_eq_true rfl⟩ rfl (rest := []) rfl (Nat.le_of_ble_eq_true rfl) dX2_takeDayHours_4 (fun H locs hz1 hd => ?_)
  refine lv_if_ne (tgt := 12) hx hb dX2_takeDayHours_7 (by decide) (fun hc2 => ?_) (fun hc2 => ?_)
  · replace he := i_f hc2 he
    refine lv_aload_n hx hb dX2_takeDayHours_12 rfl (lv_at hl 0 rfl) ?_
    refine rgetf C hd (by decide) cC25 rfl tgX2 6 (by decide) uw162 rfl dX2_takeDayHours_13 ?_
    refine lv_istore_n (lv' := [(3, .int _), (0, .ref _), (1, .ref _), (2, .int _)]) hx hb dX2_takeDayHours_16 rfl hl (by decide) rfl (fun ls hl => ?_)
    refine lv_aload_n hx hb dX2_takeDayHours_17 rfl (lv_at hl 1 rfl) ?_
    refine va_ldcS hx hb hown (C.2.2.2.2.2.2.2.1 12 (by decide)) dX2_takeDayHours_18 ?_
    replace he := b_some he
    obtain ⟨⟨r3, V3⟩, h3, he⟩ := he
    refine kVZ C hd hl.1 kw_X2_51 (by decide) cC25 rfl (c_X2_takeWord l G ks hJ (by decide) h3) ⟨Nat.le_of_ble_eq_true rfl, Nat.le_of_ble_eq_true rfl⟩ rfl (rest := []) rfl (Nat.le_of_ble_eq_true rfl) dX2_takeDayHours_20 (fun H locs hz3 hd => ?_)
    refine lv_if_eq (tgt := 38) hx hb dX2_takeDayHours_23 (by decide) (fun hc4 => ?_) (fun hc4 => ?_)
    · replace he := i_t hc4 he
      refine lv_iload_n hx hb dX2_takeDayHours_38 rfl (lv_at hl 0 rfl) ?_
      refine lv_istore (lv' := [(4, .int _), (3, .int _), (0, .ref _), (1, .ref _), (2, .int _)]) hx hb dX2_takeDayHours_39 hl (by decide) rfl (fun ls hl => ?_)
      exact L41 200 _ _ _ _ _ _ (lv_sub hl [2, 3, 4, 0] rfl) hd he
    · replace he := i_f hc4 he
      refine lv_aload_n hx hb dX2_takeDayHours_26 rfl (lv_at hl 1 rfl) ?_
      refine lv_iload_n hx hb dX2_takeDayHours_27 rfl (lv_at hl 0 rfl) ?_
      refine lv_bipush (v := 23) hx hb dX2_takeDayHours_28 (by decide) ?_
      replace he := b_some he
      obtain ⟨⟨r9, V9⟩, h9, he⟩ := he
      refine kVZ C hd hl.1 kw_X2_63 (by decide) cC25 rfl (c_X2_takeNumber l G ks hJ h9) ⟨Nat.le_of_ble_eq_true rfl, Nat.le_of_ble_eq_true rfl⟩ rfl (rest := []) rfl (Nat.le_of_ble_eq_true rfl) dX2_takeDayHours_30 (fun H locs hz9 hd => ?_)
      refine lv_if_ne (tgt := 38) hx hb dX2_takeDayHours_33 (by decide) (fun hc10 => ?_) (fun hc10 => ?_)
      · replace he := i_f hc10 he
        refine lv_iload_n hx hb dX2_takeDayHours_38 rfl (lv_at hl 0 rfl) ?_
        refine lv_istore (lv' := [(4, .int _), (3, .int _), (0, .ref _), (1, .ref _), (2, .int _)]) hx hb dX2_takeDayHours_39 hl (by decide) rfl (fun ls hl => ?_)
        exact L41 200 _ _ _ _ _ _ (lv_sub hl [2, 3, 4, 0] rfl) hd he
      · replace he := i_t hc10 he
        refine lv_iconst (v := 0) hx hb dX2_takeDayHours_36 (by decide) ?_
        exact retZe (cf := (cC G)) C hr hlk hd rfl he dX2_takeDayHours_37
  · replace he := i_t hc2 he
    refine lv_iconst (v := 0) hx hb dX2_takeDayHours_10 (by decide) ?_
    exact retZe (cf := (cC G)) C hr hlk hd rfl he dX2_takeDayHours_11
set_option maxRecDepth 100000 in
set_option maxHeartbeats 4000000 in
theorem c_X2_takeItem (l : Launch) (G : Gd) (ks : Ks) (hJ : Inj 37 G.2.2) {i : Nat} (hi : i < 3) {V V' : VV} {r : Int32} (he : f_X2_takeItem i V = some (r, V')) : MZ l 37 G (XC G ks) yX2_takeItem cX2_takeItem 3 7 152 [.ref (G.2.2 25), .ref (G.2.2 (8 * i))] (cC G V) (cC G V') r := by
  refine walk_of (own := RX2) (by decide) rfl hJ (xs_C G ks) (Nat.le_of_ble_eq_true rfl) ?_
  intro p e s m below meth c C hr hlk ls hl hd
  have hl : lv_has ls 3 [(0, .ref (G.2.2 25)), (1, .ref (G.2.2 (8 * i)))] := hl
  obtain ⟨⟨hx, hb, hml, hown, hts⟩, -⟩ := id C
  unfold f_X2_takeItem at he
  refine lv_aload_n hx hb dX2_takeItem_0 rfl (lv_at hl 0 rfl) ?_
  replace he := b_some he
  obtain ⟨⟨r1, V1⟩, h1, he⟩ := he
  refine kVI C hd hl.1 kw_X2_41 (by decide) cC25 rfl (c_X2_kindNamed l G ks hJ h1) ⟨Nat.le_of_ble_eq_true rfl, Nat.le_of_ble_eq_true rfl⟩ rfl (rest := []) rfl (Nat.le_of_ble_eq_true rfl) dX2_takeItem_1 (fun H locs hd => ?_)
  refine lv_istore_n (lv' := [(2, .int _), (0, .ref _), (1, .ref _)]) hx hb dX2_takeItem_4 rfl hl (by decide) rfl (fun ls hl => ?_)
  refine lv_iload_n hx hb dX2_takeItem_5 rfl (lv_at hl 0 rfl) ?_
  refine lv_if_lt (tgt := 16) hx hb dX2_takeItem_6 (by decide) (fun hc2 => ?_) (fun hc2 => ?_)
  · replace he := i_t hc2 he
    refine lv_aload_n hx hb dX2_takeItem_16 rfl (lv_at hl 1 rfl) ?_
    refine va_ldcS hx hb hown (C.2.2.2.2.2.2.2.1 6 (by decide)) dX2_takeItem_17 ?_
    replace he := b_some he
    obtain ⟨⟨r3, V3⟩, h3, he⟩ := he
    refine kVZ C hd hl.1 kw_X2_51 (by decide) cC25 rfl (c_X2_takeWord l G ks hJ (by decide) h3) ⟨Nat.le_of_ble_eq_true rfl, Nat.le_of_ble_eq_true rfl⟩ rfl (rest := []) rfl (Nat.le_of_ble_eq_true rfl) dX2_takeItem_19 (fun H locs hz3 hd => ?_)
    refine lv_if_eq (tgt := 32) hx hb dX2_takeItem_22 (by decide) (fun hc4 => ?_) (fun hc4 => ?_)
    · replace he := i_t hc4 he
      refine lv_aload_n hx hb dX2_takeItem_32 rfl (lv_at hl 1 rfl) ?_
      refine va_ldcS hx hb hown (C.2.2.2.2.2.2.2.1 7 (by decide)) dX2_takeItem_33 ?_
      replace he := b_some he
      obtain ⟨⟨r5, V5⟩, h5, he⟩ := he
      refine kVZ C hd hl.1 kw_X2_51 (by decide) cC25 rfl (c_X2_takeWord l G ks hJ (by decide) h5) ⟨Nat.le_of_ble_eq_true rfl, Nat.le_of_ble_eq_true rfl⟩ rfl (rest := []) rfl (Nat.le_of_ble_eq_true rfl) dX2_takeItem_35 (fun H locs hz5 hd => ?_)
      refine lv_if_eq (tgt := 48) hx hb dX2_takeItem_38 (by decide) (fun hc6 => ?_) (fun hc6 => ?_)
      · replace he := i_t hc6 he
        refine lv_aload_n hx hb dX2_takeItem_48 rfl (lv_at hl 1 rfl) ?_
        refine va_ldcS hx hb hown (C.2.2.2.2.2.2.2.1 8 (by decide)) dX2_takeItem_49 ?_
        replace he := b_some he
        obtain ⟨⟨r7, V7⟩, h7, he⟩ := he
        refine kVZ C hd hl.1 kw_X2_51 (by decide) cC25 rfl (c_X2_takeWord l G ks hJ (by decide) h7) ⟨Nat.le_of_ble_eq_true rfl, Nat.le_of_ble_eq_true rfl⟩ rfl (rest := []) rfl (Nat.le_of_ble_eq_true rfl) dX2_takeItem_51 (fun H locs hz7 hd => ?_)
        refine lv_if_eq (tgt := 77) hx hb dX2_takeItem_54 (by decide) (fun hc8 => ?_) (fun hc8 => ?_)
        · replace he := i_t hc8 he
          refine lv_iconst (v := 0) hx hb dX2_takeItem_77 (by decide) ?_
          exact retZe (cf := (cC G)) C hr hlk hd rfl he dX2_takeItem_78
        · replace he := i_f hc8 he
          refine lv_aload_n hx hb dX2_takeItem_57 rfl (lv_at hl 1 rfl) ?_
          refine lv_iconst (v := 0) hx hb dX2_takeItem_58 (by decide) ?_
          refine lv_bipush (v := 35) hx hb dX2_takeItem_59 (by decide) ?_
          replace he := b_some he
          obtain ⟨⟨r9, V9⟩, h9, he⟩ := he
          refine kVZ C hd hl.1 kw_X2_63 (by decide) cC25 rfl (c_X2_takeNumber l G ks hJ h9) ⟨Nat.le_of_ble_eq_true rfl, Nat.le_of_ble_eq_true rfl⟩ rfl (rest := []) rfl (Nat.le_of_ble_eq_true rfl) dX2_takeItem_61 (fun H locs hz9 hd => ?_)
          refine lv_if_eq (tgt := 77) hx hb dX2_takeItem_64 (by decide) (fun hc10 => ?_) (fun hc10 => ?_)
          · replace he := i_t hc10 he
            refine lv_iconst (v := 0) hx hb dX2_takeItem_77 (by decide) ?_
            exact retZe (cf := (cC G)) C hr hlk hd rfl he dX2_takeItem_78
          · replace he := i_f hc10 he
            refine lv_aload_n hx hb dX2_takeItem_67 rfl (lv_at hl 2 rfl) ?_
            refine lv_aload_n hx hb dX2_takeItem_68 rfl (lv_at hl 1 rfl) ?_
            refine rgetf C hd (by decide) cC25 rfl tgX2 6 (by decide) uw162 rfl dX2_takeItem_69 ?_
            replace he := bv_ex he
            obtain ⟨V11, e11, he⟩ := he
            refine rputf (cell' := (cC G) V11) C hd (lt_moor hi) (cC_moor hi) rfl tgX0 tyX0 tyX0_ok nmX0 2 (by decide) uw106 rfl (tyX0_ok 2 (by decide)) rfl rfl (Nat.le_of_ble_eq_true rfl) (cC_moor_w hi (by decide) e11) (cC_ne e11) dX2_takeItem_72 (fun H locs hd => ?_)
            refine lv_iconst (v := 1) hx hb dX2_takeItem_75 (by decide) ?_
            exact retZe (cf := (cC G)) C hr hlk hd rfl he dX2_takeItem_76
      · replace he := i_f hc6 he
        refine lv_aload_n hx hb dX2_takeItem_41 rfl (lv_at hl 1 rfl) ?_
        refine lv_aload_n hx hb dX2_takeItem_42 rfl (lv_at hl 2 rfl) ?_
        refine lv_iconst (v := 0) hx hb dX2_takeItem_43 (by decide) ?_
        replace he := b_some he
        obtain ⟨⟨r12, V12⟩, h12, he⟩ := he
        refine kVZ C hd hl.1 kw_X2_55 (by decide) cC25 rfl (c_X2_takeDayHours l G ks hJ hi h12) ⟨Nat.le_of_ble_eq_true rfl, Nat.le_of_ble_eq_true rfl⟩ rfl (rest := []) rfl (Nat.le_of_ble_eq_true rfl) dX2_takeItem_44 (fun H locs hz12 hd => ?_)
        exact retZe (cf := (cC G)) C hr hlk hd hz12 he dX2_takeItem_47
    · replace he := i_f hc4 he
      refine lv_aload_n hx hb dX2_takeItem_25 rfl (lv_at hl 1 rfl) ?_
      refine lv_aload_n hx hb dX2_takeItem_26 rfl (lv_at hl 2 rfl) ?_
      refine lv_iconst (v := 1) hx hb dX2_takeItem_27 (by decide) ?_
      replace he := b_some he
      obtain ⟨⟨r13, V13⟩, h13, he⟩ := he
      refine kVZ C hd hl.1 kw_X2_55 (by decide) cC25 rfl (c_X2_takeDayHours l G ks hJ hi h13) ⟨Nat.le_of_ble_eq_true rfl, Nat.le_of_ble_eq_true rfl⟩ rfl (rest := []) rfl (Nat.le_of_ble_eq_true rfl) dX2_takeItem_28 (fun H locs hz13 hd => ?_)
      exact retZe (cf := (cC G)) C hr hlk hd hz13 he dX2_takeItem_31
  · replace he := i_f hc2 he
    refine lv_aload_n hx hb dX2_takeItem_9 rfl (lv_at hl 1 rfl) ?_
    refine lv_aload_n hx hb dX2_takeItem_10 rfl (lv_at hl 2 rfl) ?_
    refine lv_iload_n hx hb dX2_takeItem_11 rfl (lv_at hl 0 rfl) ?_
    replace he := b_some he
    obtain ⟨⟨r14, V14⟩, h14, he⟩ := he
    refine kVZ C hd hl.1 kw_X2_45 (by decide) cC25 rfl (c_X2_takeWalker l G ks hJ hi h14) ⟨Nat.le_of_ble_eq_true rfl, Nat.le_of_ble_eq_true rfl⟩ rfl (rest := []) rfl (Nat.le_of_ble_eq_true rfl) dX2_takeItem_12 (fun H locs hz14 hd => ?_)
    exact retZe (cf := (cC G)) C hr hlk hd hz14 he dX2_takeItem_15
set_option maxRecDepth 100000 in
set_option maxHeartbeats 4000000 in
theorem c_X2_tellItems (l : Launch) (G : Gd) (ks : Ks) (hJ : Inj 37 G.2.2) {i : Nat} (hi : i < 3) {V V' : VV} {r : Int32} (he : f_X2_tellItems i V = some (r, V')) : MI l 37 G (XC G ks) yX2_tellItems cX2_tellItems 3 8 174 [.ref (G.2.2 25), .ref (G.2.2 (8 * i))] (cC G V) (cC G V') r := by
  refine walk_of (own := RX2) (by decide) rfl hJ (xs_C G ks) (Nat.le_of_ble_eq_true rfl) ?_
  intro p e s m below meth c C hr hlk ls hl hd
  have hl : lv_has ls 3 [(0, .ref (G.2.2 25)), (1, .ref (G.2.2 (8 * i)))] := hl
  obtain ⟨⟨hx, hb, hml, hown, hts⟩, -⟩ := id C
  have L11 : ∀ (fuel : Nat), ∀ (x2 : Int32) (V : VV) (H : Heap) (locs : List Loc) (ls : Array Slot), lv_has ls 3 [(0, .ref (G.2.2 25)), (1, .ref (G.2.2 (8 * i))), (2, .int x2)] → Dy 37 G (cC G V) s H locs → f_X2_tellItems_L11 i fuel x2 V = some (r, V') → W p l e (rmF 8 174) s m ([.ref (G.2.2 25), .ref (G.2.2 (8 * i))] : List Value).toArray below meth c H locs 0 0 (MQ below (QI 37 G (cC G V') (fun r' => r' = r)) ([.ref (G.2.2 25), .ref (G.2.2 (8 * i))] : List Value).toArray s 0 0 (inA 37 G.2.2)) (F0 m 11 ls []) := by
    intro fuel
    induction fuel with
    | zero => intro x2 V H locs ls hl hd he; simp [f_X2_tellItems_L11] at he
    | succ n ih11 =>
      intro x2 V H locs ls hl hd he
      rw [f_X2_tellItems_L11] at he
      refine lv_iload_n hx hb dX2_tellItems_11 rfl (lv_at hl 2 rfl) ?_
      refine lv_bipush (v := 120) hx hb dX2_tellItems_12 (by decide) ?_
      refine lv_icmp_gt (tgt := 66) hx hb dX2_tellItems_14 (by decide) (fun hc3 => ?_) (fun hc3 => ?_)
      · replace he := i_t hc3 he
        refine lv_iconst (v := (-1)) hx hb dX2_tellItems_66 (by decide) ?_
        refine lv_aload_n hx hb dX2_tellItems_67 rfl (lv_at hl 0 rfl) ?_
        refine rgetf C hd (by decide) cC25 rfl tgX2 3 (by decide) uw159 rfl dX2_tellItems_68 ?_
        refine lv_isub hx hb dX2_tellItems_71 ?_
        exact retIe (cf := (cC G)) C hr hlk hd he dX2_tellItems_72
      · replace he := i_f hc3 he
        refine lv_aload_n hx hb dX2_tellItems_17 rfl (lv_at hl 0 rfl) ?_
        refine lv_aload_n hx hb dX2_tellItems_18 rfl (lv_at hl 1 rfl) ?_
        replace he := b_some he
        obtain ⟨⟨r4, V4⟩, h4, he⟩ := he
        refine kVZ C hd hl.1 kw_X2_37 (by decide) cC25 rfl (c_X2_takeItem l G ks hJ hi h4) ⟨Nat.le_of_ble_eq_true rfl, Nat.le_of_ble_eq_true rfl⟩ rfl (rest := []) rfl (Nat.le_of_ble_eq_true rfl) dX2_tellItems_19 (fun H locs hz4 hd => ?_)
        refine lv_if_ne (tgt := 32) hx hb dX2_tellItems_22 (by decide) (fun hc5 => ?_) (fun hc5 => ?_)
        · replace he := i_f hc5 he
          refine lv_aload_n hx hb dX2_tellItems_32 rfl (lv_at hl 0 rfl) ?_
          refine rgetf C hd (by decide) cC25 rfl tgX2 2 (by decide) uw158 rfl dX2_tellItems_33 ?_
          refine lv_if_ne (tgt := 41) hx hb dX2_tellItems_36 (by decide) (fun hc6 => ?_) (fun hc6 => ?_)
          · replace he := i_f hc6 he
            refine lv_aload_n hx hb dX2_tellItems_41 rfl (lv_at hl 0 rfl) ?_
            refine rgetf C hd (by decide) cC25 rfl tgX2 2 (by decide) uw158 rfl dX2_tellItems_42 ?_
            refine lv_iconst (v := 3) hx hb dX2_tellItems_45 (by decide) ?_
            refine lv_icmp_eq (tgt := 56) hx hb dX2_tellItems_46 (by decide) (fun hc7 => ?_) (fun hc7 => ?_)
            · replace he := i_t hc7 he
              refine lv_aload_n hx hb dX2_tellItems_56 rfl (lv_at hl 0 rfl) ?_
              replace he := b_some he
              obtain ⟨V8, h8, he⟩ := he
              refine kVV C hd hl.1 kw_X2_34 (by decide) cC25 rfl (c_X2_look l G ks hJ h8) ⟨Nat.le_of_ble_eq_true rfl, Nat.le_of_ble_eq_true rfl⟩ rfl (rest := []) rfl (Nat.le_of_ble_eq_true rfl) dX2_tellItems_57 (fun H locs hd => ?_)
              refine lv_iinc (v := _ + 1) (lv' := [(2, .int _), (0, .ref _), (1, .ref _)]) hx hb dX2_tellItems_60 hl (k := 2) rfl rfl (by decide) rfl (fun ls hl => ?_)
              refine lv_goto (tgt := 11) hx hb dX2_tellItems_63 (by decide) ?_
              exact ih11 _ _ _ _ _ (lv_sub hl [1, 2, 0] rfl) hd he
            · replace he := i_f hc7 he
              refine lv_iconst (v := (-1)) hx hb dX2_tellItems_49 (by decide) ?_
              refine lv_aload_n hx hb dX2_tellItems_50 rfl (lv_at hl 0 rfl) ?_
              refine rgetf C hd (by decide) cC25 rfl tgX2 3 (by decide) uw159 rfl dX2_tellItems_51 ?_
              refine lv_isub hx hb dX2_tellItems_54 ?_
              exact retIe (cf := (cC G)) C hr hlk hd he dX2_tellItems_55
          · replace he := i_t hc6 he
            refine lv_iload_n hx hb dX2_tellItems_39 rfl (lv_at hl 2 rfl) ?_
            exact retIe (cf := (cC G)) C hr hlk hd he dX2_tellItems_40
        · replace he := i_t hc5 he
          refine lv_iconst (v := (-1)) hx hb dX2_tellItems_25 (by decide) ?_
          refine lv_aload_n hx hb dX2_tellItems_26 rfl (lv_at hl 0 rfl) ?_
          refine rgetf C hd (by decide) cC25 rfl tgX2 3 (by decide) uw159 rfl dX2_tellItems_27 ?_
          refine lv_isub hx hb dX2_tellItems_30 ?_
          exact retIe (cf := (cC G)) C hr hlk hd he dX2_tellItems_31
  unfold f_X2_tellItems at he
  refine lv_aload_n hx hb dX2_tellItems_0 rfl (lv_at hl 0 rfl) ?_
  refine lv_iconst (v := 0) hx hb dX2_tellItems_1 (by decide) ?_
  replace he := bv_ex he
  obtain ⟨V1, e1, he⟩ := he
  refine rputf (cell' := (cC G) V1) C hd (by decide) cC25 rfl tgX2 tyX2 tyX2_ok nmX2 4 (by decide) uw160 rfl (tyX2_ok 4 (by decide)) rfl rfl (Nat.le_of_ble_eq_true rfl) (cC25_w (by decide) e1) (cC_ne e1) dX2_tellItems_2 (fun H locs hd => ?_)
  refine lv_aload_n hx hb dX2_tellItems_5 rfl (lv_at hl 0 rfl) ?_
  replace he := b_some he
  obtain ⟨V2, h2, he⟩ := he
  refine kVV C hd hl.1 kw_X2_34 (by decide) cC25 rfl (c_X2_look l G ks hJ h2) ⟨Nat.le_of_ble_eq_true rfl, Nat.le_of_ble_eq_true rfl⟩ rfl (rest := []) rfl (Nat.le_of_ble_eq_true rfl) dX2_tellItems_6 (fun H locs hd => ?_)
  refine lv_iconst (v := 1) hx hb dX2_tellItems_9 (by decide) ?_
  refine lv_istore_n (lv' := [(2, .int _), (0, .ref _), (1, .ref _)]) hx hb dX2_tellItems_10 rfl hl (by decide) rfl (fun ls hl => ?_)
  exact L11 200 _ _ _ _ _ (lv_sub hl [1, 2, 0] rfl) hd he
set_option maxRecDepth 100000 in
set_option maxHeartbeats 4000000 in
theorem c_X3_moor (l : Launch) (G : Gd) (ks : Ks) (hJ : Inj 37 G.2.2) {V V' : VV} {r : Int32} (he : f_X3_moor V = some (r, V')) : MI l 37 G (XC G ks) yX3_moor cX3_moor 2 9 196 [.ref (G.2.2 24)] (cC G V) (cC G V') r := by
  refine walk_of (own := RX3) (by decide) rfl hJ (xs_C G ks) (Nat.le_of_ble_eq_true rfl) ?_
  intro p e s m below meth c C hr hlk ls hl hd
  have hl : lv_has ls 2 [(0, .ref (G.2.2 24))] := hl
  obtain ⟨⟨hx, hb, hml, hown, hts⟩, -⟩ := id C
  unfold f_X3_moor at he
  refine lv_aload_n hx hb dX3_moor_0 rfl (lv_at hl 0 rfl) ?_
  refine rgetf C hd (by decide) cC24 rfl tgX3 1 (by decide) uw200 rfl dX3_moor_1 ?_
  refine lv_aload_n hx hb dX3_moor_4 rfl (lv_at hl 0 rfl) ?_
  refine rgetf C hd (by decide) cC24 rfl tgX3 0 (by decide) uw199 rfl dX3_moor_5 ?_
  replace he := b_some he
  obtain ⟨V1, h1, he⟩ := he
  refine kVV C hd hl.1 kw_X3_148 (lt_moor (by decide)) (cC_moor (by decide)) rfl (c_X0_takeFrom l G ks hJ (by decide) (by decide) h1) ⟨Nat.le_of_ble_eq_true rfl, Nat.le_of_ble_eq_true rfl⟩ rfl (rest := []) rfl (Nat.le_of_ble_eq_true rfl) dX3_moor_8 (fun H locs hd => ?_)
  refine lv_aload_n hx hb dX3_moor_11 rfl (lv_at hl 0 rfl) ?_
  refine rgetf C hd (by decide) cC24 rfl tgX3 4 (by decide) uw203 rfl dX3_moor_12 ?_
  refine lv_aload_n hx hb dX3_moor_15 rfl (lv_at hl 0 rfl) ?_
  refine rgetf C hd (by decide) cC24 rfl tgX3 1 (by decide) uw200 rfl dX3_moor_16 ?_
  replace he := b_some he
  obtain ⟨⟨r2, V2⟩, h2, he⟩ := he
  refine kVI C hd hl.1 kw_X3_176 (by decide) cC25 rfl (c_X2_tellItems l G ks hJ (by decide) h2) ⟨Nat.le_of_ble_eq_true rfl, Nat.le_of_ble_eq_true rfl⟩ rfl (rest := []) rfl (Nat.le_of_ble_eq_true rfl) dX3_moor_19 (fun H locs hd => ?_)
  refine lv_istore_n (lv' := [(1, .int _), (0, .ref _)]) hx hb dX3_moor_22 rfl hl (by decide) rfl (fun ls hl => ?_)
  refine lv_aload_n hx hb dX3_moor_23 rfl (lv_at hl 1 rfl) ?_
  refine rgetf C hd (by decide) cC24 rfl tgX3 4 (by decide) uw203 rfl dX3_moor_24 ?_
  refine lv_iconst (v := 0) hx hb dX3_moor_27 (by decide) ?_
  replace he := bv_ex he
  obtain ⟨V3, e3, he⟩ := he
  refine rputf (cell' := (cC G) V3) C hd (by decide) cC25 rfl tgX2 tyX2 tyX2_ok nmX2 0 (by decide) uw156 rfl (tyX2_ok 0 (by decide)) rfl rfl (Nat.le_of_ble_eq_true rfl) (cC25_w (by decide) e3) (cC_ne e3) dX3_moor_28 (fun H locs hd => ?_)
  refine lv_iload_n hx hb dX3_moor_31 rfl (lv_at hl 0 rfl) ?_
  refine lv_if_le (tgt := 46) hx hb dX3_moor_32 (by decide) (fun hc4 => ?_) (fun hc4 => ?_)
  · replace he := i_t hc4 he
    refine lv_iload_n hx hb dX3_moor_46 rfl (lv_at hl 0 rfl) ?_
    exact retIe (cf := (cC G)) C hr hlk hd he dX3_moor_47
  · replace he := i_f hc4 he
    refine lv_aload_n hx hb dX3_moor_35 rfl (lv_at hl 1 rfl) ?_
    refine rgetf C hd (by decide) cC24 rfl tgX3 0 (by decide) uw199 rfl dX3_moor_36 ?_
    refine lv_aload_n hx hb dX3_moor_39 rfl (lv_at hl 1 rfl) ?_
    refine rgetf C hd (by decide) cC24 rfl tgX3 1 (by decide) uw200 rfl dX3_moor_40 ?_
    replace he := b_some he
    obtain ⟨V5, h5, he⟩ := he
    refine kVV C hd hl.1 kw_X3_148 (lt_moor (by decide)) (cC_moor (by decide)) rfl (c_X0_takeFrom l G ks hJ (by decide) (by decide) h5) ⟨Nat.le_of_ble_eq_true rfl, Nat.le_of_ble_eq_true rfl⟩ rfl (rest := []) rfl (Nat.le_of_ble_eq_true rfl) dX3_moor_43 (fun H locs hd => ?_)
    refine lv_iload_n hx hb dX3_moor_46 rfl (lv_at hl 0 rfl) ?_
    exact retIe (cf := (cC G)) C hr hlk hd he dX3_moor_47
set_option maxRecDepth 100000 in
set_option maxHeartbeats 4000000 in
theorem c_X1_layOut (l : Launch) (G : Gd) (ks : Ks) (hJ : Inj 37 G.2.2) {k : Nat} {a1 : Int32} {a2 : Int32} (hk : k < 4) {V V' : VV} (he : f_X1_layOut k a1 a2 V = some V') : MV l 37 G (XC G ks) yX1_layOut cX1_layOut 4 0 0 [.ref (G.2.2 (29 + 2 * k)), .int a1, .int a2] (cC G V) (cC G V') := by
  refine walk_of (own := RX1) (by decide) rfl hJ (xs_C G ks) (Nat.le_of_ble_eq_true rfl) ?_
  intro p e s m below meth c C hr hlk ls hl hd
  have hl : lv_has ls 4 [(0, .ref (G.2.2 (29 + 2 * k))), (1, .int a1), (2, .int a2)] := hl
  obtain ⟨⟨hx, hb, hml, hown, hts⟩, -⟩ := id C
  have L20 : ∀ (fuel : Nat), ∀ (x3 : Int32) (V : VV) (H : Heap) (locs : List Loc) (ls : Array Slot), lv_has ls 4 [(0, .ref (G.2.2 (29 + 2 * k))), (3, .int x3)] → Dy 37 G (cC G V) s H locs → f_X1_layOut_L20 k fuel x3 V = some V' → W p l e (rmF 0 0) s m ([.ref (G.2.2 (29 + 2 * k)), .int a1, .int a2] : List Value).toArray below meth c H locs 0 0 (MQ below (QV 37 G (cC G V')) ([.ref (G.2.2 (29 + 2 * k)), .int a1, .int a2] : List Value).toArray s 0 0 (inA 37 G.2.2)) (F0 m 20 ls []) := by
    intro fuel
    induction fuel with
    | zero => intro x3 V H locs ls hl hd he; simp [f_X1_layOut_L20] at he
    | succ n ih20 =>
      intro x3 V H locs ls hl hd he
      rw [f_X1_layOut_L20] at he
      refine lv_iload_n hx hb dX1_layOut_20 rfl (lv_at hl 1 rfl) ?_
      refine lv_bipush (v := 40) hx hb dX1_layOut_21 (by decide) ?_
      refine lv_icmp_ge (tgt := 39) hx hb dX1_layOut_23 (by decide) (fun hc4 => ?_) (fun hc4 => ?_)
      · replace he := i_t hc4 he
        exact retVe (cf := (cC G)) C hr hlk hd he dX1_layOut_39
      · replace he := i_f hc4 he
        refine lv_aload_n hx hb dX1_layOut_26 rfl (lv_at hl 0 rfl) ?_
        refine rgetf C hd (lt_sh hk) (cC_sh hk) rfl tgX1 2 (by decide) uw189 rfl dX1_layOut_27 ?_
        refine lv_iload_n hx hb dX1_layOut_30 rfl (lv_at hl 1 rfl) ?_
        refine lv_lconst (v := 0) hx hb dX1_layOut_31 (by decide) ?_
        replace he := g_some he
        obtain ⟨hi5, he⟩ := he
        replace he := bv_ex he
        obtain ⟨V6, e6, he⟩ := he
        refine rlast (cell' := (cC G) V6) C hd (lt_sn hk) (cC_sn hk) hi5 (cC_sn_w hk e6) (cC_neJ e6) dX1_layOut_32 (fun H locs hd => ?_)
        refine lv_iinc (v := _ + 1) (lv' := [(3, .int _), (0, .ref _)]) hx hb dX1_layOut_33 hl (k := 1) rfl rfl (by decide) rfl (fun ls hl => ?_)
        refine lv_goto (tgt := 20) hx hb dX1_layOut_36 (by decide) ?_
        exact ih20 _ _ _ _ _ (lv_sub hl [1, 0] rfl) hd he
  unfold f_X1_layOut at he
  refine lv_aload_n hx hb dX1_layOut_0 rfl (lv_at hl 0 rfl) ?_
  refine lv_iload_n hx hb dX1_layOut_1 rfl (lv_at hl 1 rfl) ?_
  replace he := bv_ex he
  obtain ⟨V1, e1, he⟩ := he
  refine rputf (cell' := (cC G) V1) C hd (lt_sh hk) (cC_sh hk) rfl tgX1 tyX1 tyX1_ok nmX1 0 (by decide) uw185 rfl (tyX1_ok 0 (by decide)) rfl rfl (Nat.le_of_ble_eq_true rfl) (cC_sh_w hk (by decide) e1) (cC_ne e1) dX1_layOut_2 (fun H locs hd => ?_)
  refine lv_aload_n hx hb dX1_layOut_5 rfl (lv_at hl 0 rfl) ?_
  refine lv_iload_n hx hb dX1_layOut_6 rfl (lv_at hl 1 rfl) ?_
  refine lv_if_ne (tgt := 14) hx hb dX1_layOut_7 (by decide) (fun hc2 => ?_) (fun hc2 => ?_)
  · replace he := i_f hc2 he
    refine lv_iload_n hx hb dX1_layOut_14 rfl (lv_at hl 2 rfl) ?_
    replace he := bv_ex he
    obtain ⟨V3, e3, he⟩ := he
    refine rputf (cell' := (cC G) V3) C hd (lt_sh hk) (cC_sh hk) rfl tgX1 tyX1 tyX1_ok nmX1 1 (by decide) uw187 rfl (tyX1_ok 1 (by decide)) rfl rfl (Nat.le_of_ble_eq_true rfl) (cC_sh_w hk (by decide) e3) (cC_ne e3) dX1_layOut_15 (fun H locs hd => ?_)
    refine lv_iconst (v := 0) hx hb dX1_layOut_18 (by decide) ?_
    refine lv_istore_n (lv' := [(3, .int _), (0, .ref _), (1, .int _), (2, .int _)]) hx hb dX1_layOut_19 rfl hl (by decide) rfl (fun ls hl => ?_)
    exact L20 200 _ _ _ _ _ (lv_sub hl [1, 0] rfl) hd he
  · replace he := i_t hc2 he
    refine lv_iconst (v := 0) hx hb dX1_layOut_10 (by decide) ?_
    refine lv_goto (tgt := 15) hx hb dX1_layOut_11 (by decide) ?_
    replace he := bv_ex he
    obtain ⟨V7, e7, he⟩ := he
    refine rputf (cell' := (cC G) V7) C hd (lt_sh hk) (cC_sh hk) rfl tgX1 tyX1 tyX1_ok nmX1 1 (by decide) uw187 rfl (tyX1_ok 1 (by decide)) rfl rfl (Nat.le_of_ble_eq_true rfl) (cC_sh_w hk (by decide) e7) (cC_ne e7) dX1_layOut_15 (fun H locs hd => ?_)
    refine lv_iconst (v := 0) hx hb dX1_layOut_18 (by decide) ?_
    refine lv_istore_n (lv' := [(3, .int _), (0, .ref _), (1, .int _), (2, .int _)]) hx hb dX1_layOut_19 rfl hl (by decide) rfl (fun ls hl => ?_)
    exact L20 200 _ _ _ _ _ (lv_sub hl [1, 0] rfl) hd he
set_option maxRecDepth 100000 in
set_option maxHeartbeats 4000000 in
theorem c_X3_sheet (l : Launch) (G : Gd) (ks : Ks) (hJ : Inj 37 G.2.2) {a1 : Int32} {a2 : Int32} {a3 : Int32} {V V' : VV} {r : Int32} (he : f_X3_sheet a1 a2 a3 V = some (r, V')) : MI l 37 G (XC G ks) yX3_sheet cX3_sheet 6 1 23 [.ref (G.2.2 24), .int a1, .int a2, .int a3] (cC G V) (cC G V') r := by
  refine walk_of (own := RX3) (by decide) rfl hJ (xs_C G ks) (Nat.le_of_ble_eq_true rfl) ?_
  intro p e s m below meth c C hr hlk ls hl hd
  have hl : lv_has ls 6 [(0, .ref (G.2.2 24)), (1, .int a1), (2, .int a2), (3, .int a3)] := hl
  obtain ⟨⟨hx, hb, hml, hown, hts⟩, -⟩ := id C
  unfold f_X3_sheet at he
  refine lv_iload_n hx hb dX3_sheet_0 rfl (lv_at hl 2 rfl) ?_
  refine lv_if_eq (tgt := 22) hx hb dX3_sheet_1 (by decide) (fun hc1 => ?_) (fun hc1 => ?_)
  · replace he := i_t hc1 he
    refine lv_iconst (v := 1) hx hb dX3_sheet_22 (by decide) ?_
    refine lv_goto (tgt := 27) hx hb dX3_sheet_23 (by decide) ?_
    refine lv_istore (lv' := [(4, .int _), (0, .ref _), (1, .int _), (2, .int _), (3, .int _)]) hx hb dX3_sheet_27 hl (by decide) rfl (fun ls hl => ?_)
    refine lv_aload_n hx hb dX3_sheet_29 rfl (lv_at hl 1 rfl) ?_
    refine lv_iload_n hx hb dX3_sheet_30 rfl (lv_at hl 2 rfl) ?_
    replace he := b_some he
    obtain ⟨⟨r2, V2⟩, h2, he⟩ := he
    refine kVQ C hd hl.1 kw_X3_180 (by decide) cC24 rfl (c_X3_sheetOf l G ks hJ h2) ⟨Nat.le_of_ble_eq_true rfl, Nat.le_of_ble_eq_true rfl⟩ rfl (rest := []) rfl (Nat.le_of_ble_eq_true rfl) dX3_sheet_31 (fun hc2 H locs hd => ?_) (fun hc2 hk2 H locs hd => ?_)
    · replace he := i_t hc2 he
      refine lv_astoreN (lv' := [(5, .null), (4, .int _), (0, .ref _), (1, .int _), (2, .int _), (3, .int _)]) hx hb dX3_sheet_34 hl (by decide) rfl (fun ls hl => ?_)
      refine lv_aloadN hx hb dX3_sheet_36 (lv_at hl 0 rfl) ?_
      refine lv_ifnullN (tgt := 46) hx hb dX3_sheet_38 (by decide) ?_
      refine lv_aload_n hx hb dX3_sheet_46 rfl (lv_at hl 2 rfl) ?_
      refine lv_ldc hx hb hown (hts _ uw226) dX3_sheet_47 ?_
      replace he := b_some he
      obtain ⟨⟨r3, V3⟩, h3, he⟩ := he
      refine kVI C hd hl.1 kw_X3_46 (by decide) cC24 rfl (c_X3_finding l G ks hJ h3) ⟨Nat.le_of_ble_eq_true rfl, Nat.le_of_ble_eq_true rfl⟩ rfl (rest := []) rfl (Nat.le_of_ble_eq_true rfl) dX3_sheet_49 (fun H locs hd => ?_)
      exact retIe (cf := (cC G)) C hr hlk hd he dX3_sheet_52
    · replace he := i_f hc2 he
      refine lv_astore (lv' := [(5, .ref _), (4, .int _), (0, .ref _), (1, .int _), (2, .int _), (3, .int _)]) hx hb dX3_sheet_34 hl (by decide) rfl (fun ls hl => ?_)
      refine lv_aload hx hb dX3_sheet_36 (lv_at hl 0 rfl) ?_
      refine lv_ifnull hx hb dX3_sheet_38 ?_
      refine lv_iload hx hb dX3_sheet_41 (lv_at hl 1 rfl) ?_
      refine lv_if_ne (tgt := 53) hx hb dX3_sheet_43 (by decide) (fun hc4 => ?_) (fun hc4 => ?_)
      · refine lv_iload_n hx hb dX3_sheet_53 rfl (lv_at hl 5 rfl) ?_
        refine lv_if_ge (tgt := 64) hx hb dX3_sheet_54 (by decide) (fun hc5 => ?_) (fun hc5 => ?_)
        · replace he := i_t hc5 he
          refine lv_iload_n hx hb dX3_sheet_64 rfl (lv_at hl 5 rfl) ?_
          refine lv_bipush (v := 40) hx hb dX3_sheet_65 (by decide) ?_
          refine lv_icmp_le (tgt := 77) hx hb dX3_sheet_67 (by decide) (fun hc6 => ?_) (fun hc6 => ?_)
          · replace he := i_t hc6 he
            refine lv_aload hx hb dX3_sheet_77 (lv_at hl 0 rfl) ?_
            refine lv_iload_n hx hb dX3_sheet_79 rfl (lv_at hl 4 rfl) ?_
            refine lv_iload_n hx hb dX3_sheet_80 rfl (lv_at hl 5 rfl) ?_
            replace he := b_some he
            obtain ⟨V7, h7, he⟩ := he
            refine kVV C hd hl.1 kw_X3_185 (lt_sh hk2) (cC_sh hk2) rfl (c_X1_layOut l G ks hJ hk2 h7) ⟨Nat.le_of_ble_eq_true rfl, Nat.le_of_ble_eq_true rfl⟩ rfl (rest := []) rfl (Nat.le_of_ble_eq_true rfl) dX3_sheet_81 (fun H locs hd => ?_)
            refine lv_aload hx hb dX3_sheet_84 (lv_at hl 0 rfl) ?_
            refine rgetf C hd (lt_sh hk2) (cC_sh hk2) rfl tgX1 1 (by decide) uw188 rfl dX3_sheet_86 ?_
            exact retIe (cf := (cC G)) C hr hlk hd he dX3_sheet_89
          · replace he := i_f hc6 he
            refine lv_aload_n hx hb dX3_sheet_70 rfl (lv_at hl 2 rfl) ?_
            refine lv_ldc hx hb hown (hts _ uw226) dX3_sheet_71 ?_
            replace he := b_some he
            obtain ⟨⟨r8, V8⟩, h8, he⟩ := he
            refine kVI C hd hl.1 kw_X3_46 (by decide) cC24 rfl (c_X3_finding l G ks hJ h8) ⟨Nat.le_of_ble_eq_true rfl, Nat.le_of_ble_eq_true rfl⟩ rfl (rest := []) rfl (Nat.le_of_ble_eq_true rfl) dX3_sheet_73 (fun H locs hd => ?_)
            exact retIe (cf := (cC G)) C hr hlk hd he dX3_sheet_76
        · replace he := i_f hc5 he
          refine lv_aload_n hx hb dX3_sheet_57 rfl (lv_at hl 2 rfl) ?_
          refine lv_ldc hx hb hown (hts _ uw627) dX3_sheet_58 ?_
          replace he := b_some he
          obtain ⟨⟨r9, V9⟩, h9, he⟩ := he
          refine kVI C hd hl.1 kw_X3_46 (by decide) cC24 rfl (c_X3_finding l G ks hJ h9) ⟨Nat.le_of_ble_eq_true rfl, Nat.le_of_ble_eq_true rfl⟩ rfl (rest := []) rfl (Nat.le_of_ble_eq_true rfl) dX3_sheet_60 (fun H locs hd => ?_)
          exact retIe (cf := (cC G)) C hr hlk hd he dX3_sheet_63
      · exact absurd hc4 (by decide)
  · replace he := i_f hc1 he
    refine lv_iload_n hx hb dX3_sheet_4 rfl (lv_at hl 2 rfl) ?_
    refine lv_bipush (v := 8) hx hb dX3_sheet_5 (by decide) ?_
    refine lv_icmp_eq (tgt := 22) hx hb dX3_sheet_7 (by decide) (fun hc10 => ?_) (fun hc10 => ?_)
    · replace he := i_t hc10 he
      refine lv_iconst (v := 1) hx hb dX3_sheet_22 (by decide) ?_
      refine lv_goto (tgt := 27) hx hb dX3_sheet_23 (by decide) ?_
      refine lv_istore (lv' := [(4, .int _), (0, .ref _), (1, .int _), (2, .int _), (3, .int _)]) hx hb dX3_sheet_27 hl (by decide) rfl (fun ls hl => ?_)
      refine lv_aload_n hx hb dX3_sheet_29 rfl (lv_at hl 1 rfl) ?_
      refine lv_iload_n hx hb dX3_sheet_30 rfl (lv_at hl 2 rfl) ?_
      replace he := b_some he
      obtain ⟨⟨r11, V11⟩, h11, he⟩ := he
      refine kVQ C hd hl.1 kw_X3_180 (by decide) cC24 rfl (c_X3_sheetOf l G ks hJ h11) ⟨Nat.le_of_ble_eq_true rfl, Nat.le_of_ble_eq_true rfl⟩ rfl (rest := []) rfl (Nat.le_of_ble_eq_true rfl) dX3_sheet_31 (fun hc11 H locs hd => ?_) (fun hc11 hk11 H locs hd => ?_)
      · replace he := i_t hc11 he
        refine lv_astoreN (lv' := [(5, .null), (4, .int _), (0, .ref _), (1, .int _), (2, .int _), (3, .int _)]) hx hb dX3_sheet_34 hl (by decide) rfl (fun ls hl => ?_)
        refine lv_aloadN hx hb dX3_sheet_36 (lv_at hl 0 rfl) ?_
        refine lv_ifnullN (tgt := 46) hx hb dX3_sheet_38 (by decide) ?_
        refine lv_aload_n hx hb dX3_sheet_46 rfl (lv_at hl 2 rfl) ?_
        refine lv_ldc hx hb hown (hts _ uw226) dX3_sheet_47 ?_
        replace he := b_some he
        obtain ⟨⟨r12, V12⟩, h12, he⟩ := he
        refine kVI C hd hl.1 kw_X3_46 (by decide) cC24 rfl (c_X3_finding l G ks hJ h12) ⟨Nat.le_of_ble_eq_true rfl, Nat.le_of_ble_eq_true rfl⟩ rfl (rest := []) rfl (Nat.le_of_ble_eq_true rfl) dX3_sheet_49 (fun H locs hd => ?_)
        exact retIe (cf := (cC G)) C hr hlk hd he dX3_sheet_52
      · replace he := i_f hc11 he
        refine lv_astore (lv' := [(5, .ref _), (4, .int _), (0, .ref _), (1, .int _), (2, .int _), (3, .int _)]) hx hb dX3_sheet_34 hl (by decide) rfl (fun ls hl => ?_)
        refine lv_aload hx hb dX3_sheet_36 (lv_at hl 0 rfl) ?_
        refine lv_ifnull hx hb dX3_sheet_38 ?_
        refine lv_iload hx hb dX3_sheet_41 (lv_at hl 1 rfl) ?_
        refine lv_if_ne (tgt := 53) hx hb dX3_sheet_43 (by decide) (fun hc13 => ?_) (fun hc13 => ?_)
        · refine lv_iload_n hx hb dX3_sheet_53 rfl (lv_at hl 5 rfl) ?_
          refine lv_if_ge (tgt := 64) hx hb dX3_sheet_54 (by decide) (fun hc14 => ?_) (fun hc14 => ?_)
          · replace he := i_t hc14 he
            refine lv_iload_n hx hb dX3_sheet_64 rfl (lv_at hl 5 rfl) ?_
            refine lv_bipush (v := 40) hx hb dX3_sheet_65 (by decide) ?_
            refine lv_icmp_le (tgt := 77) hx hb dX3_sheet_67 (by decide) (fun hc15 => ?_) (fun hc15 => ?_)
            · replace he := i_t hc15 he
              refine lv_aload hx hb dX3_sheet_77 (lv_at hl 0 rfl) ?_
              refine lv_iload_n hx hb dX3_sheet_79 rfl (lv_at hl 4 rfl) ?_
              refine lv_iload_n hx hb dX3_sheet_80 rfl (lv_at hl 5 rfl) ?_
              replace he := b_some he
              obtain ⟨V16, h16, he⟩ := he
              refine kVV C hd hl.1 kw_X3_185 (lt_sh hk11) (cC_sh hk11) rfl (c_X1_layOut l G ks hJ hk11 h16) ⟨Nat.le_of_ble_eq_true rfl, Nat.le_of_ble_eq_true rfl⟩ rfl (rest := []) rfl (Nat.le_of_ble_eq_true rfl) dX3_sheet_81 (fun H locs hd => ?_)
              refine lv_aload hx hb dX3_sheet_84 (lv_at hl 0 rfl) ?_
              refine rgetf C hd (lt_sh hk11) (cC_sh hk11) rfl tgX1 1 (by decide) uw188 rfl dX3_sheet_86 ?_
              exact retIe (cf := (cC G)) C hr hlk hd he dX3_sheet_89
            · replace he := i_f hc15 he
              refine lv_aload_n hx hb dX3_sheet_70 rfl (lv_at hl 2 rfl) ?_
              refine lv_ldc hx hb hown (hts _ uw226) dX3_sheet_71 ?_
              replace he := b_some he
              obtain ⟨⟨r17, V17⟩, h17, he⟩ := he
              refine kVI C hd hl.1 kw_X3_46 (by decide) cC24 rfl (c_X3_finding l G ks hJ h17) ⟨Nat.le_of_ble_eq_true rfl, Nat.le_of_ble_eq_true rfl⟩ rfl (rest := []) rfl (Nat.le_of_ble_eq_true rfl) dX3_sheet_73 (fun H locs hd => ?_)
              exact retIe (cf := (cC G)) C hr hlk hd he dX3_sheet_76
          · replace he := i_f hc14 he
            refine lv_aload_n hx hb dX3_sheet_57 rfl (lv_at hl 2 rfl) ?_
            refine lv_ldc hx hb hown (hts _ uw627) dX3_sheet_58 ?_
            replace he := b_some he
            obtain ⟨⟨r18, V18⟩, h18, he⟩ := he
            refine kVI C hd hl.1 kw_X3_46 (by decide) cC24 rfl (c_X3_finding l G ks hJ h18) ⟨Nat.le_of_ble_eq_true rfl, Nat.le_of_ble_eq_true rfl⟩ rfl (rest := []) rfl (Nat.le_of_ble_eq_true rfl) dX3_sheet_60 (fun H locs hd => ?_)
            exact retIe (cf := (cC G)) C hr hlk hd he dX3_sheet_63
        · exact absurd hc13 (by decide)
    · replace he := i_f hc10 he
      refine lv_iload_n hx hb dX3_sheet_10 rfl (lv_at hl 2 rfl) ?_
      refine lv_bipush (v := 16) hx hb dX3_sheet_11 (by decide) ?_
      refine lv_icmp_eq (tgt := 22) hx hb dX3_sheet_13 (by decide) (fun hc19 => ?_) (fun hc19 => ?_)
      · replace he := i_t hc19 he
        refine lv_iconst (v := 1) hx hb dX3_sheet_22 (by decide) ?_
        refine lv_goto (tgt := 27) hx hb dX3_sheet_23 (by decide) ?_
        refine lv_istore (lv' := [(4, .int _), (0, .ref _), (1, .int _), (2, .int _), (3, .int _)]) hx hb dX3_sheet_27 hl (by decide) rfl (fun ls hl => ?_)
        refine lv_aload_n hx hb dX3_sheet_29 rfl (lv_at hl 1 rfl) ?_
        refine lv_iload_n hx hb dX3_sheet_30 rfl (lv_at hl 2 rfl) ?_
        replace he := b_some he
        obtain ⟨⟨r20, V20⟩, h20, he⟩ := he
        refine kVQ C hd hl.1 kw_X3_180 (by decide) cC24 rfl (c_X3_sheetOf l G ks hJ h20) ⟨Nat.le_of_ble_eq_true rfl, Nat.le_of_ble_eq_true rfl⟩ rfl (rest := []) rfl (Nat.le_of_ble_eq_true rfl) dX3_sheet_31 (fun hc20 H locs hd => ?_) (fun hc20 hk20 H locs hd => ?_)
        · replace he := i_t hc20 he
          refine lv_astoreN (lv' := [(5, .null), (4, .int _), (0, .ref _), (1, .int _), (2, .int _), (3, .int _)]) hx hb dX3_sheet_34 hl (by decide) rfl (fun ls hl => ?_)
          refine lv_aloadN hx hb dX3_sheet_36 (lv_at hl 0 rfl) ?_
          refine lv_ifnullN (tgt := 46) hx hb dX3_sheet_38 (by decide) ?_
          refine lv_aload_n hx hb dX3_sheet_46 rfl (lv_at hl 2 rfl) ?_
          refine lv_ldc hx hb hown (hts _ uw226) dX3_sheet_47 ?_
          replace he := b_some he
          obtain ⟨⟨r21, V21⟩, h21, he⟩ := he
          refine kVI C hd hl.1 kw_X3_46 (by decide) cC24 rfl (c_X3_finding l G ks hJ h21) ⟨Nat.le_of_ble_eq_true rfl, Nat.le_of_ble_eq_true rfl⟩ rfl (rest := []) rfl (Nat.le_of_ble_eq_true rfl) dX3_sheet_49 (fun H locs hd => ?_)
          exact retIe (cf := (cC G)) C hr hlk hd he dX3_sheet_52
        · replace he := i_f hc20 he
          refine lv_astore (lv' := [(5, .ref _), (4, .int _), (0, .ref _), (1, .int _), (2, .int _), (3, .int _)]) hx hb dX3_sheet_34 hl (by decide) rfl (fun ls hl => ?_)
          refine lv_aload hx hb dX3_sheet_36 (lv_at hl 0 rfl) ?_
          refine lv_ifnull hx hb dX3_sheet_38 ?_
          refine lv_iload hx hb dX3_sheet_41 (lv_at hl 1 rfl) ?_
          refine lv_if_ne (tgt := 53) hx hb dX3_sheet_43 (by decide) (fun hc22 => ?_) (fun hc22 => ?_)
          · refine lv_iload_n hx hb dX3_sheet_53 rfl (lv_at hl 5 rfl) ?_
            refine lv_if_ge (tgt := 64) hx hb dX3_sheet_54 (by decide) (fun hc23 => ?_) (fun hc23 => ?_)
            · replace he := i_t hc23 he
              refine lv_iload_n hx hb dX3_sheet_64 rfl (lv_at hl 5 rfl) ?_
              refine lv_bipush (v := 40) hx hb dX3_sheet_65 (by decide) ?_
              refine lv_icmp_le (tgt := 77) hx hb dX3_sheet_67 (by decide) (fun hc24 => ?_) (fun hc24 => ?_)
              · replace he := i_t hc24 he
                refine lv_aload hx hb dX3_sheet_77 (lv_at hl 0 rfl) ?_
                refine lv_iload_n hx hb dX3_sheet_79 rfl (lv_at hl 4 rfl) ?_
                refine lv_iload_n hx hb dX3_sheet_80 rfl (lv_at hl 5 rfl) ?_
                replace he := b_some he
                obtain ⟨V25, h25, he⟩ := he
                refine kVV C hd hl.1 kw_X3_185 (lt_sh hk20) (cC_sh hk20) rfl (c_X1_layOut l G ks hJ hk20 h25) ⟨Nat.le_of_ble_eq_true rfl, Nat.le_of_ble_eq_true rfl⟩ rfl (rest := []) rfl (Nat.le_of_ble_eq_true rfl) dX3_sheet_81 (fun H locs hd => ?_)
                refine lv_aload hx hb dX3_sheet_84 (lv_at hl 0 rfl) ?_
                refine rgetf C hd (lt_sh hk20) (cC_sh hk20) rfl tgX1 1 (by decide) uw188 rfl dX3_sheet_86 ?_
                exact retIe (cf := (cC G)) C hr hlk hd he dX3_sheet_89
              · replace he := i_f hc24 he
                refine lv_aload_n hx hb dX3_sheet_70 rfl (lv_at hl 2 rfl) ?_
                refine lv_ldc hx hb hown (hts _ uw226) dX3_sheet_71 ?_
                replace he := b_some he
                obtain ⟨⟨r26, V26⟩, h26, he⟩ := he
                refine kVI C hd hl.1 kw_X3_46 (by decide) cC24 rfl (c_X3_finding l G ks hJ h26) ⟨Nat.le_of_ble_eq_true rfl, Nat.le_of_ble_eq_true rfl⟩ rfl (rest := []) rfl (Nat.le_of_ble_eq_true rfl) dX3_sheet_73 (fun H locs hd => ?_)
                exact retIe (cf := (cC G)) C hr hlk hd he dX3_sheet_76
            · replace he := i_f hc23 he
              refine lv_aload_n hx hb dX3_sheet_57 rfl (lv_at hl 2 rfl) ?_
              refine lv_ldc hx hb hown (hts _ uw627) dX3_sheet_58 ?_
              replace he := b_some he
              obtain ⟨⟨r27, V27⟩, h27, he⟩ := he
              refine kVI C hd hl.1 kw_X3_46 (by decide) cC24 rfl (c_X3_finding l G ks hJ h27) ⟨Nat.le_of_ble_eq_true rfl, Nat.le_of_ble_eq_true rfl⟩ rfl (rest := []) rfl (Nat.le_of_ble_eq_true rfl) dX3_sheet_60 (fun H locs hd => ?_)
              exact retIe (cf := (cC G)) C hr hlk hd he dX3_sheet_63
          · exact absurd hc22 (by decide)
      · replace he := i_f hc19 he
        refine lv_iload_n hx hb dX3_sheet_16 rfl (lv_at hl 2 rfl) ?_
        refine lv_bipush (v := 64) hx hb dX3_sheet_17 (by decide) ?_
        refine lv_icmp_ne (tgt := 26) hx hb dX3_sheet_19 (by decide) (fun hc28 => ?_) (fun hc28 => ?_)
        · replace he := i_f hc28 he
          refine lv_iconst (v := 0) hx hb dX3_sheet_26 (by decide) ?_
          refine lv_istore (lv' := [(4, .int _), (0, .ref _), (1, .int _), (2, .int _), (3, .int _)]) hx hb dX3_sheet_27 hl (by decide) rfl (fun ls hl => ?_)
          refine lv_aload_n hx hb dX3_sheet_29 rfl (lv_at hl 1 rfl) ?_
          refine lv_iload_n hx hb dX3_sheet_30 rfl (lv_at hl 2 rfl) ?_
          replace he := b_some he
          obtain ⟨⟨r29, V29⟩, h29, he⟩ := he
          refine kVQ C hd hl.1 kw_X3_180 (by decide) cC24 rfl (c_X3_sheetOf l G ks hJ h29) ⟨Nat.le_of_ble_eq_true rfl, Nat.le_of_ble_eq_true rfl⟩ rfl (rest := []) rfl (Nat.le_of_ble_eq_true rfl) dX3_sheet_31 (fun hc29 H locs hd => ?_) (fun hc29 hk29 H locs hd => ?_)
          · replace he := i_t hc29 he
            refine lv_astoreN (lv' := [(5, .null), (4, .int _), (0, .ref _), (1, .int _), (2, .int _), (3, .int _)]) hx hb dX3_sheet_34 hl (by decide) rfl (fun ls hl => ?_)
            refine lv_aloadN hx hb dX3_sheet_36 (lv_at hl 0 rfl) ?_
            refine lv_ifnullN (tgt := 46) hx hb dX3_sheet_38 (by decide) ?_
            refine lv_aload_n hx hb dX3_sheet_46 rfl (lv_at hl 2 rfl) ?_
            refine lv_ldc hx hb hown (hts _ uw226) dX3_sheet_47 ?_
            replace he := b_some he
            obtain ⟨⟨r30, V30⟩, h30, he⟩ := he
            refine kVI C hd hl.1 kw_X3_46 (by decide) cC24 rfl (c_X3_finding l G ks hJ h30) ⟨Nat.le_of_ble_eq_true rfl, Nat.le_of_ble_eq_true rfl⟩ rfl (rest := []) rfl (Nat.le_of_ble_eq_true rfl) dX3_sheet_49 (fun H locs hd => ?_)
            exact retIe (cf := (cC G)) C hr hlk hd he dX3_sheet_52
          · replace he := i_f hc29 he
            refine lv_astore (lv' := [(5, .ref _), (4, .int _), (0, .ref _), (1, .int _), (2, .int _), (3, .int _)]) hx hb dX3_sheet_34 hl (by decide) rfl (fun ls hl => ?_)
            refine lv_aload hx hb dX3_sheet_36 (lv_at hl 0 rfl) ?_
            refine lv_ifnull hx hb dX3_sheet_38 ?_
            refine lv_iload hx hb dX3_sheet_41 (lv_at hl 1 rfl) ?_
            refine lv_if_ne (tgt := 53) hx hb dX3_sheet_43 (by decide) (fun hc31 => ?_) (fun hc31 => ?_)
            · exact absurd hc31 (by decide)
            · refine lv_aload_n hx hb dX3_sheet_46 rfl (lv_at hl 2 rfl) ?_
              refine lv_ldc hx hb hown (hts _ uw226) dX3_sheet_47 ?_
              replace he := b_some he
              obtain ⟨⟨r32, V32⟩, h32, he⟩ := he
              refine kVI C hd hl.1 kw_X3_46 (by decide) cC24 rfl (c_X3_finding l G ks hJ h32) ⟨Nat.le_of_ble_eq_true rfl, Nat.le_of_ble_eq_true rfl⟩ rfl (rest := []) rfl (Nat.le_of_ble_eq_true rfl) dX3_sheet_49 (fun H locs hd => ?_)
              exact retIe (cf := (cC G)) C hr hlk hd he dX3_sheet_52
        · replace he := i_t hc28 he
          refine lv_iconst (v := 1) hx hb dX3_sheet_22 (by decide) ?_
          refine lv_goto (tgt := 27) hx hb dX3_sheet_23 (by decide) ?_
          refine lv_istore (lv' := [(4, .int _), (0, .ref _), (1, .int _), (2, .int _), (3, .int _)]) hx hb dX3_sheet_27 hl (by decide) rfl (fun ls hl => ?_)
          refine lv_aload_n hx hb dX3_sheet_29 rfl (lv_at hl 1 rfl) ?_
          refine lv_iload_n hx hb dX3_sheet_30 rfl (lv_at hl 2 rfl) ?_
          replace he := b_some he
          obtain ⟨⟨r33, V33⟩, h33, he⟩ := he
          refine kVQ C hd hl.1 kw_X3_180 (by decide) cC24 rfl (c_X3_sheetOf l G ks hJ h33) ⟨Nat.le_of_ble_eq_true rfl, Nat.le_of_ble_eq_true rfl⟩ rfl (rest := []) rfl (Nat.le_of_ble_eq_true rfl) dX3_sheet_31 (fun hc33 H locs hd => ?_) (fun hc33 hk33 H locs hd => ?_)
          · replace he := i_t hc33 he
            refine lv_astoreN (lv' := [(5, .null), (4, .int _), (0, .ref _), (1, .int _), (2, .int _), (3, .int _)]) hx hb dX3_sheet_34 hl (by decide) rfl (fun ls hl => ?_)
            refine lv_aloadN hx hb dX3_sheet_36 (lv_at hl 0 rfl) ?_
            refine lv_ifnullN (tgt := 46) hx hb dX3_sheet_38 (by decide) ?_
            refine lv_aload_n hx hb dX3_sheet_46 rfl (lv_at hl 2 rfl) ?_
            refine lv_ldc hx hb hown (hts _ uw226) dX3_sheet_47 ?_
            replace he := b_some he
            obtain ⟨⟨r34, V34⟩, h34, he⟩ := he
            refine kVI C hd hl.1 kw_X3_46 (by decide) cC24 rfl (c_X3_finding l G ks hJ h34) ⟨Nat.le_of_ble_eq_true rfl, Nat.le_of_ble_eq_true rfl⟩ rfl (rest := []) rfl (Nat.le_of_ble_eq_true rfl) dX3_sheet_49 (fun H locs hd => ?_)
            exact retIe (cf := (cC G)) C hr hlk hd he dX3_sheet_52
          · replace he := i_f hc33 he
            refine lv_astore (lv' := [(5, .ref _), (4, .int _), (0, .ref _), (1, .int _), (2, .int _), (3, .int _)]) hx hb dX3_sheet_34 hl (by decide) rfl (fun ls hl => ?_)
            refine lv_aload hx hb dX3_sheet_36 (lv_at hl 0 rfl) ?_
            refine lv_ifnull hx hb dX3_sheet_38 ?_
            refine lv_iload hx hb dX3_sheet_41 (lv_at hl 1 rfl) ?_
            refine lv_if_ne (tgt := 53) hx hb dX3_sheet_43 (by decide) (fun hc35 => ?_) (fun hc35 => ?_)
            · refine lv_iload_n hx hb dX3_sheet_53 rfl (lv_at hl 5 rfl) ?_
              refine lv_if_ge (tgt := 64) hx hb dX3_sheet_54 (by decide) (fun hc36 => ?_) (fun hc36 => ?_)
              · replace he := i_t hc36 he
                refine lv_iload_n hx hb dX3_sheet_64 rfl (lv_at hl 5 rfl) ?_
                refine lv_bipush (v := 40) hx hb dX3_sheet_65 (by decide) ?_
                refine lv_icmp_le (tgt := 77) hx hb dX3_sheet_67 (by decide) (fun hc37 => ?_) (fun hc37 => ?_)
                · replace he := i_t hc37 he
                  refine lv_aload hx hb dX3_sheet_77 (lv_at hl 0 rfl) ?_
                  refine lv_iload_n hx hb dX3_sheet_79 rfl (lv_at hl 4 rfl) ?_
                  refine lv_iload_n hx hb dX3_sheet_80 rfl (lv_at hl 5 rfl) ?_
                  replace he := b_some he
                  obtain ⟨V38, h38, he⟩ := he
                  refine kVV C hd hl.1 kw_X3_185 (lt_sh hk33) (cC_sh hk33) rfl (c_X1_layOut l G ks hJ hk33 h38) ⟨Nat.le_of_ble_eq_true rfl, Nat.le_of_ble_eq_true rfl⟩ rfl (rest := []) rfl (Nat.le_of_ble_eq_true rfl) dX3_sheet_81 (fun H locs hd => ?_)
                  refine lv_aload hx hb dX3_sheet_84 (lv_at hl 0 rfl) ?_
                  refine rgetf C hd (lt_sh hk33) (cC_sh hk33) rfl tgX1 1 (by decide) uw188 rfl dX3_sheet_86 ?_
                  exact retIe (cf := (cC G)) C hr hlk hd he dX3_sheet_89
                · replace he := i_f hc37 he
                  refine lv_aload_n hx hb dX3_sheet_70 rfl (lv_at hl 2 rfl) ?_
                  refine lv_ldc hx hb hown (hts _ uw226) dX3_sheet_71 ?_
                  replace he := b_some he
                  obtain ⟨⟨r39, V39⟩, h39, he⟩ := he
                  refine kVI C hd hl.1 kw_X3_46 (by decide) cC24 rfl (c_X3_finding l G ks hJ h39) ⟨Nat.le_of_ble_eq_true rfl, Nat.le_of_ble_eq_true rfl⟩ rfl (rest := []) rfl (Nat.le_of_ble_eq_true rfl) dX3_sheet_73 (fun H locs hd => ?_)
                  exact retIe (cf := (cC G)) C hr hlk hd he dX3_sheet_76
              · replace he := i_f hc36 he
                refine lv_aload_n hx hb dX3_sheet_57 rfl (lv_at hl 2 rfl) ?_
                refine lv_ldc hx hb hown (hts _ uw627) dX3_sheet_58 ?_
                replace he := b_some he
                obtain ⟨⟨r40, V40⟩, h40, he⟩ := he
                refine kVI C hd hl.1 kw_X3_46 (by decide) cC24 rfl (c_X3_finding l G ks hJ h40) ⟨Nat.le_of_ble_eq_true rfl, Nat.le_of_ble_eq_true rfl⟩ rfl (rest := []) rfl (Nat.le_of_ble_eq_true rfl) dX3_sheet_60 (fun H locs hd => ?_)
                exact retIe (cf := (cC G)) C hr hlk hd he dX3_sheet_63
            · exact absurd hc35 (by decide)
set_option maxRecDepth 100000 in
set_option maxHeartbeats 4000000 in
theorem c_X1_isMissing (l : Launch) (G : Gd) (ks : Ks) (hJ : Inj 37 G.2.2) {k : Nat} (hk : k < 4) {V V' : VV} {r : Int32} (he : f_X1_isMissing k V = some (r, V')) : MZ l 37 G (XC G ks) yX1_isMissing cX1_isMissing 1 0 0 [.ref (G.2.2 (29 + 2 * k))] (cC G V) (cC G V') r := by
  refine walk_of (own := RX1) (by decide) rfl hJ (xs_C G ks) (Nat.le_of_ble_eq_true rfl) ?_
  intro p e s m below meth c C hr hlk ls hl hd
  have hl : lv_has ls 1 [(0, .ref (G.2.2 (29 + 2 * k)))] := hl
  obtain ⟨⟨hx, hb, hml, hown, hts⟩, -⟩ := id C
  unfold f_X1_isMissing at he
  refine lv_aload_n hx hb dX1_isMissing_0 rfl (lv_at hl 0 rfl) ?_
  refine rgetf C hd (lt_sh hk) (cC_sh hk) rfl tgX1 0 (by decide) uw185 rfl dX1_isMissing_1 ?_
  refine lv_if_ne (tgt := 11) hx hb dX1_isMissing_4 (by decide) (fun hc1 => ?_) (fun hc1 => ?_)
  · replace he := i_f hc1 he
    refine lv_iconst (v := 0) hx hb dX1_isMissing_11 (by decide) ?_
    exact retZe (cf := (cC G)) C hr hlk hd rfl he dX1_isMissing_12
  · replace he := i_t hc1 he
    refine lv_iconst (v := 1) hx hb dX1_isMissing_7 (by decide) ?_
    refine lv_goto (tgt := 12) hx hb dX1_isMissing_8 (by decide) ?_
    exact retZe (cf := (cC G)) C hr hlk hd rfl he dX1_isMissing_12
set_option maxRecDepth 100000 in
set_option maxHeartbeats 4000000 in
theorem c_X1_put (l : Launch) (G : Gd) (ks : Ks) (hJ : Inj 37 G.2.2) {k : Nat} {a1 : Int32} {a2 : Int64} (hk : k < 4) {V V' : VV} (he : f_X1_put k a1 a2 V = some V') : MV l 37 G (XC G ks) yX1_put cX1_put 4 0 0 [.ref (G.2.2 (29 + 2 * k)), .int a1, .long a2] (cC G V) (cC G V') := by
  refine walk_of (own := RX1) (by decide) rfl hJ (xs_C G ks) (Nat.le_of_ble_eq_true rfl) ?_
  intro p e s m below meth c C hr hlk ls hl hd
  have hl : lv_has ls 4 [(0, .ref (G.2.2 (29 + 2 * k))), (1, .int a1), (2, .long a2)] := hl
  obtain ⟨⟨hx, hb, hml, hown, hts⟩, -⟩ := id C
  unfold f_X1_put at he
  refine lv_aload_n hx hb dX1_put_0 rfl (lv_at hl 0 rfl) ?_
  refine rgetf C hd (lt_sh hk) (cC_sh hk) rfl tgX1 0 (by decide) uw185 rfl dX1_put_1 ?_
  refine lv_bipush (v := 8) hx hb dX1_put_4 (by decide) ?_
  refine lv_icmp_ne (tgt := 22) hx hb dX1_put_6 (by decide) (fun hc1 => ?_) (fun hc1 => ?_)
  · replace he := i_f hc1 he
    refine lv_aload_n hx hb dX1_put_22 rfl (lv_at hl 0 rfl) ?_
    refine rgetf C hd (lt_sh hk) (cC_sh hk) rfl tgX1 0 (by decide) uw185 rfl dX1_put_23 ?_
    refine lv_bipush (v := 16) hx hb dX1_put_26 (by decide) ?_
    refine lv_icmp_ne (tgt := 44) hx hb dX1_put_28 (by decide) (fun hc2 => ?_) (fun hc2 => ?_)
    · replace he := i_f hc2 he
      refine lv_aload_n hx hb dX1_put_44 rfl (lv_at hl 0 rfl) ?_
      refine rgetf C hd (lt_sh hk) (cC_sh hk) rfl tgX1 2 (by decide) uw189 rfl dX1_put_45 ?_
      refine lv_iload_n hx hb dX1_put_48 rfl (lv_at hl 1 rfl) ?_
      refine lv_lload_n hx hb dX1_put_49 rfl (lv_at hl 2 rfl) ?_
      replace he := g_some he
      obtain ⟨hi3, he⟩ := he
      replace he := bv_ex he
      obtain ⟨V4, e4, he⟩ := he
      refine rlast (cell' := (cC G) V4) C hd (lt_sn hk) (cC_sn hk) hi3 (cC_sn_w hk e4) (cC_neJ e4) dX1_put_50 (fun H locs hd => ?_)
      exact retVe (cf := (cC G)) C hr hlk hd he dX1_put_51
    · replace he := i_t hc2 he
      refine lv_aload_n hx hb dX1_put_31 rfl (lv_at hl 0 rfl) ?_
      refine rgetf C hd (lt_sh hk) (cC_sh hk) rfl tgX1 2 (by decide) uw189 rfl dX1_put_32 ?_
      refine lv_iload_n hx hb dX1_put_35 rfl (lv_at hl 1 rfl) ?_
      refine lv_lload_n hx hb dX1_put_36 rfl (lv_at hl 2 rfl) ?_
      refine lv_l2i hx hb dX1_put_37 rfl ?_
      refine lv_i2s hx hb dX1_put_38 rfl ?_
      refine lv_i2l hx hb dX1_put_39 rfl ?_
      replace he := g_some he
      obtain ⟨hi5, he⟩ := he
      replace he := bv_ex he
      obtain ⟨V6, e6, he⟩ := he
      refine rlast (cell' := (cC G) V6) C hd (lt_sn hk) (cC_sn hk) hi5 (cC_sn_w hk e6) (cC_neJ e6) dX1_put_40 (fun H locs hd => ?_)
      refine lv_goto (tgt := 51) hx hb dX1_put_41 (by decide) ?_
      exact retVe (cf := (cC G)) C hr hlk hd he dX1_put_51
  · replace he := i_t hc1 he
    refine lv_aload_n hx hb dX1_put_9 rfl (lv_at hl 0 rfl) ?_
    refine rgetf C hd (lt_sh hk) (cC_sh hk) rfl tgX1 2 (by decide) uw189 rfl dX1_put_10 ?_
    refine lv_iload_n hx hb dX1_put_13 rfl (lv_at hl 1 rfl) ?_
    refine lv_lload_n hx hb dX1_put_14 rfl (lv_at hl 2 rfl) ?_
    refine lv_l2i hx hb dX1_put_15 rfl ?_
    refine lv_i2b hx hb dX1_put_16 rfl ?_
    refine lv_i2l hx hb dX1_put_17 rfl ?_
    replace he := g_some he
    obtain ⟨hi7, he⟩ := he
    replace he := bv_ex he
    obtain ⟨V8, e8, he⟩ := he
    refine rlast (cell' := (cC G) V8) C hd (lt_sn hk) (cC_sn hk) hi7 (cC_sn_w hk e8) (cC_neJ e8) dX1_put_18 (fun H locs hd => ?_)
    refine lv_goto (tgt := 51) hx hb dX1_put_19 (by decide) ?_
    exact retVe (cf := (cC G)) C hr hlk hd he dX1_put_51
set_option maxRecDepth 100000 in
set_option maxHeartbeats 4000000 in
theorem c_X3_write (l : Launch) (G : Gd) (ks : Ks) (hJ : Inj 37 G.2.2) {a1 : Int32} {a2 : Int32} {a3 : Int64} {V V' : VV} {r : Int64} (he : f_X3_write a1 a2 a3 V = some (r, V')) : MJ l 37 G (XC G ks) yX3_write cX3_write 8 1 23 [.ref (G.2.2 24), .int a1, .int a2, .long a3] (cC G V) (cC G V') r := by
  refine walk_of (own := RX3) (by decide) rfl hJ (xs_C G ks) (Nat.le_of_ble_eq_true rfl) ?_
  intro p e s m below meth c C hr hlk ls hl hd
  have hl : lv_has ls 8 [(0, .ref (G.2.2 24)), (1, .int a1), (2, .int a2), (3, .long a3)] := hl
  obtain ⟨⟨hx, hb, hml, hown, hts⟩, -⟩ := id C
  unfold f_X3_write at he
  refine lv_aload_n hx hb dX3_write_0 rfl (lv_at hl 0 rfl) ?_
  refine lv_iload_n hx hb dX3_write_1 rfl (lv_at hl 1 rfl) ?_
  replace he := b_some he
  obtain ⟨⟨r1, V1⟩, h1, he⟩ := he
  refine kVQ C hd hl.1 kw_X3_180 (by decide) cC24 rfl (c_X3_sheetOf l G ks hJ h1) ⟨Nat.le_of_ble_eq_true rfl, Nat.le_of_ble_eq_true rfl⟩ rfl (rest := []) rfl (Nat.le_of_ble_eq_true rfl) dX3_write_2 (fun hc1 H locs hd => ?_) (fun hc1 hk1 H locs hd => ?_)
  · replace he := i_t hc1 he
    refine lv_astoreN (lv' := [(5, .null), (0, .ref _), (1, .int _), (2, .int _), (3, .long _)]) hx hb dX3_write_5 hl (by decide) rfl (fun ls hl => ?_)
    refine lv_aloadN hx hb dX3_write_7 (lv_at hl 0 rfl) ?_
    refine lv_ifnonnullN hx hb dX3_write_9 ?_
    refine lv_aload_n hx hb dX3_write_12 rfl (lv_at hl 1 rfl) ?_
    refine lv_ldc hx hb hown (hts _ uw226) dX3_write_13 ?_
    replace he := b_some he
    obtain ⟨⟨r2, V2⟩, h2, he⟩ := he
    refine kVI C hd hl.1 kw_X3_46 (by decide) cC24 rfl (c_X3_finding l G ks hJ h2) ⟨Nat.le_of_ble_eq_true rfl, Nat.le_of_ble_eq_true rfl⟩ rfl (rest := []) rfl (Nat.le_of_ble_eq_true rfl) dX3_write_15 (fun H locs hd => ?_)
    refine lv_i2l hx hb dX3_write_18 rfl ?_
    exact retJe (cf := (cC G)) C hr hlk hd he dX3_write_19
  · replace he := i_f hc1 he
    refine lv_astore (lv' := [(5, .ref _), (0, .ref _), (1, .int _), (2, .int _), (3, .long _)]) hx hb dX3_write_5 hl (by decide) rfl (fun ls hl => ?_)
    refine lv_aload hx hb dX3_write_7 (lv_at hl 0 rfl) ?_
    refine lv_ifnonnull (tgt := 20) hx hb dX3_write_9 (by decide) ?_
    refine lv_aload hx hb dX3_write_20 (lv_at hl 0 rfl) ?_
    replace he := b_some he
    obtain ⟨⟨r3, V3⟩, h3, he⟩ := he
    refine kVZ C hd hl.1 kw_X3_191 (lt_sh hk1) (cC_sh hk1) rfl (c_X1_isMissing l G ks hJ hk1 h3) ⟨Nat.le_of_ble_eq_true rfl, Nat.le_of_ble_eq_true rfl⟩ rfl (rest := []) rfl (Nat.le_of_ble_eq_true rfl) dX3_write_22 (fun H locs hz3 hd => ?_)
    refine lv_if_eq (tgt := 36) hx hb dX3_write_25 (by decide) (fun hc4 => ?_) (fun hc4 => ?_)
    · replace he := i_t hc4 he
      refine lv_iload_n hx hb dX3_write_36 rfl (lv_at hl 3 rfl) ?_
      refine lv_if_lt (tgt := 49) hx hb dX3_write_37 (by decide) (fun hc5 => ?_) (fun hc5 => ?_)
      · replace he := i_t hc5 he
        refine lv_aload_n hx hb dX3_write_49 rfl (lv_at hl 1 rfl) ?_
        refine lv_ldc hx hb hown (hts _ uw226) dX3_write_50 ?_
        replace he := b_some he
        obtain ⟨⟨r6, V6⟩, h6, he⟩ := he
        refine kVI C hd hl.1 kw_X3_46 (by decide) cC24 rfl (c_X3_finding l G ks hJ h6) ⟨Nat.le_of_ble_eq_true rfl, Nat.le_of_ble_eq_true rfl⟩ rfl (rest := []) rfl (Nat.le_of_ble_eq_true rfl) dX3_write_52 (fun H locs hd => ?_)
        refine lv_i2l hx hb dX3_write_55 rfl ?_
        exact retJe (cf := (cC G)) C hr hlk hd he dX3_write_56
      · replace he := i_f hc5 he
        refine lv_iload_n hx hb dX3_write_40 rfl (lv_at hl 3 rfl) ?_
        refine lv_aload hx hb dX3_write_41 (lv_at hl 0 rfl) ?_
        refine rgetf C hd (lt_sh hk1) (cC_sh hk1) rfl tgX1 1 (by decide) uw188 rfl dX3_write_43 ?_
        refine lv_icmp_lt (tgt := 57) hx hb dX3_write_46 (by decide) (fun hc7 => ?_) (fun hc7 => ?_)
        · replace he := i_t hc7 he
          refine lv_aload hx hb dX3_write_57 (lv_at hl 0 rfl) ?_
          refine rgetf C hd (lt_sh hk1) (cC_sh hk1) rfl tgX1 2 (by decide) uw190 rfl dX3_write_59 ?_
          refine lv_iload_n hx hb dX3_write_62 rfl (lv_at hl 3 rfl) ?_
          replace he := g_some he
          obtain ⟨hi8, he⟩ := he
          refine rlald C hd (lt_sn hk1) (cC_sn hk1) hi8 dX3_write_63 ?_
          refine lv_lstore (lv' := [(6, .long _), (5, .ref _), (0, .ref _), (1, .int _), (2, .int _), (3, .long _)]) hx hb dX3_write_64 hl (by decide) rfl (fun ls hl => ?_)
          refine lv_aload hx hb dX3_write_66 (lv_at hl 1 rfl) ?_
          refine lv_iload_n hx hb dX3_write_68 rfl (lv_at hl 4 rfl) ?_
          refine lv_lload_n hx hb dX3_write_69 rfl (lv_at hl 5 rfl) ?_
          replace he := b_some he
          obtain ⟨V9, h9, he⟩ := he
          refine kVV C hd hl.1 kw_X3_199 (lt_sh hk1) (cC_sh hk1) rfl (c_X1_put l G ks hJ hk1 h9) ⟨Nat.le_of_ble_eq_true rfl, Nat.le_of_ble_eq_true rfl⟩ rfl (rest := []) rfl (Nat.le_of_ble_eq_true rfl) dX3_write_70 (fun H locs hd => ?_)
          refine lv_lload hx hb dX3_write_73 (lv_at hl 0 rfl) ?_
          exact retJe (cf := (cC G)) C hr hlk hd he dX3_write_75
        · replace he := i_f hc7 he
          refine lv_aload_n hx hb dX3_write_49 rfl (lv_at hl 1 rfl) ?_
          refine lv_ldc hx hb hown (hts _ uw226) dX3_write_50 ?_
          replace he := b_some he
          obtain ⟨⟨r10, V10⟩, h10, he⟩ := he
          refine kVI C hd hl.1 kw_X3_46 (by decide) cC24 rfl (c_X3_finding l G ks hJ h10) ⟨Nat.le_of_ble_eq_true rfl, Nat.le_of_ble_eq_true rfl⟩ rfl (rest := []) rfl (Nat.le_of_ble_eq_true rfl) dX3_write_52 (fun H locs hd => ?_)
          refine lv_i2l hx hb dX3_write_55 rfl ?_
          exact retJe (cf := (cC G)) C hr hlk hd he dX3_write_56
    · replace he := i_f hc4 he
      refine lv_aload_n hx hb dX3_write_28 rfl (lv_at hl 1 rfl) ?_
      refine lv_ldc hx hb hown (hts _ uw640) dX3_write_29 ?_
      replace he := b_some he
      obtain ⟨⟨r11, V11⟩, h11, he⟩ := he
      refine kVI C hd hl.1 kw_X3_46 (by decide) cC24 rfl (c_X3_finding l G ks hJ h11) ⟨Nat.le_of_ble_eq_true rfl, Nat.le_of_ble_eq_true rfl⟩ rfl (rest := []) rfl (Nat.le_of_ble_eq_true rfl) dX3_write_31 (fun H locs hd => ?_)
      refine lv_i2l hx hb dX3_write_34 rfl ?_
      exact retJe (cf := (cC G)) C hr hlk hd he dX3_write_35
set_option maxRecDepth 100000 in
set_option maxHeartbeats 4000000 in
theorem c_X1_hasRun (l : Launch) (G : Gd) (ks : Ks) (hJ : Inj 37 G.2.2) {k : Nat} {a1 : Int32} {a2 : Int32} (hk : k < 4) {V V' : VV} {r : Int32} (he : f_X1_hasRun k a1 a2 V = some (r, V')) : MZ l 37 G (XC G ks) yX1_hasRun cX1_hasRun 3 0 0 [.ref (G.2.2 (29 + 2 * k)), .int a1, .int a2] (cC G V) (cC G V') r := by
  refine walk_of (own := RX1) (by decide) rfl hJ (xs_C G ks) (Nat.le_of_ble_eq_true rfl) ?_
  intro p e s m below meth c C hr hlk ls hl hd
  have hl : lv_has ls 3 [(0, .ref (G.2.2 (29 + 2 * k))), (1, .int a1), (2, .int a2)] := hl
  obtain ⟨⟨hx, hb, hml, hown, hts⟩, -⟩ := id C
  unfold f_X1_hasRun at he
  refine lv_iload_n hx hb dX1_hasRun_0 rfl (lv_at hl 1 rfl) ?_
  refine lv_if_lt (tgt := 30) hx hb dX1_hasRun_1 (by decide) (fun hc1 => ?_) (fun hc1 => ?_)
  · replace he := i_t hc1 he
    refine lv_iconst (v := 0) hx hb dX1_hasRun_30 (by decide) ?_
    exact retZe (cf := (cC G)) C hr hlk hd rfl he dX1_hasRun_31
  · replace he := i_f hc1 he
    refine lv_iload_n hx hb dX1_hasRun_4 rfl (lv_at hl 2 rfl) ?_
    refine lv_if_lt (tgt := 30) hx hb dX1_hasRun_5 (by decide) (fun hc2 => ?_) (fun hc2 => ?_)
    · replace he := i_t hc2 he
      refine lv_iconst (v := 0) hx hb dX1_hasRun_30 (by decide) ?_
      exact retZe (cf := (cC G)) C hr hlk hd rfl he dX1_hasRun_31
    · replace he := i_f hc2 he
      refine lv_iload_n hx hb dX1_hasRun_8 rfl (lv_at hl 2 rfl) ?_
      refine lv_aload_n hx hb dX1_hasRun_9 rfl (lv_at hl 0 rfl) ?_
      refine rgetf C hd (lt_sh hk) (cC_sh hk) rfl tgX1 1 (by decide) uw187 rfl dX1_hasRun_10 ?_
      refine lv_icmp_gt (tgt := 30) hx hb dX1_hasRun_13 (by decide) (fun hc3 => ?_) (fun hc3 => ?_)
      · replace he := i_t hc3 he
        refine lv_iconst (v := 0) hx hb dX1_hasRun_30 (by decide) ?_
        exact retZe (cf := (cC G)) C hr hlk hd rfl he dX1_hasRun_31
      · replace he := i_f hc3 he
        refine lv_iload_n hx hb dX1_hasRun_16 rfl (lv_at hl 1 rfl) ?_
        refine lv_aload_n hx hb dX1_hasRun_17 rfl (lv_at hl 0 rfl) ?_
        refine rgetf C hd (lt_sh hk) (cC_sh hk) rfl tgX1 1 (by decide) uw187 rfl dX1_hasRun_18 ?_
        refine lv_iload_n hx hb dX1_hasRun_21 rfl (lv_at hl 2 rfl) ?_
        refine lv_isub hx hb dX1_hasRun_22 ?_
        refine lv_icmp_gt (tgt := 30) hx hb dX1_hasRun_23 (by decide) (fun hc4 => ?_) (fun hc4 => ?_)
        · replace he := i_t hc4 he
          refine lv_iconst (v := 0) hx hb dX1_hasRun_30 (by decide) ?_
          exact retZe (cf := (cC G)) C hr hlk hd rfl he dX1_hasRun_31
        · replace he := i_f hc4 he
          refine lv_iconst (v := 1) hx hb dX1_hasRun_26 (by decide) ?_
          refine lv_goto (tgt := 31) hx hb dX1_hasRun_27 (by decide) ?_
          exact retZe (cf := (cC G)) C hr hlk hd rfl he dX1_hasRun_31
set_option maxRecDepth 100000 in
set_option maxHeartbeats 4000000 in
theorem c_X3_copy (l : Launch) (G : Gd) (ks : Ks) (hJ : Inj 37 G.2.2) {a1 : Int32} {a2 : Int32} {a3 : Int32} {a4 : Int32} {a5 : Int32} {V V' : VV} {r : Int32} (he : f_X3_copy a1 a2 a3 a4 a5 V = some (r, V')) : MI l 37 G (XC G ks) yX3_copy cX3_copy 8 1 30 [.ref (G.2.2 24), .int a1, .int a2, .int a3, .int a4, .int a5] (cC G V) (cC G V') r := by
  refine walk_of (own := RX3) (by decide) rfl hJ (xs_C G ks) (Nat.le_of_ble_eq_true rfl) ?_
  intro p e s m below meth c C hr hlk ls hl hd
  have hl : lv_has ls 8 [(0, .ref (G.2.2 24)), (1, .int a1), (2, .int a2), (3, .int a3), (4, .int a4), (5, .int a5)] := hl
  obtain ⟨⟨hx, hb, hml, hown, hts⟩, -⟩ := id C
  unfold f_X3_copy at he
  refine lv_aload_n hx hb dX3_copy_0 rfl (lv_at hl 0 rfl) ?_
  refine lv_iload_n hx hb dX3_copy_1 rfl (lv_at hl 1 rfl) ?_
  replace he := b_some he
  obtain ⟨⟨r1, V1⟩, h1, he⟩ := he
  refine kVQ C hd hl.1 kw_X3_180 (by decide) cC24 rfl (c_X3_sheetOf l G ks hJ h1) ⟨Nat.le_of_ble_eq_true rfl, Nat.le_of_ble_eq_true rfl⟩ rfl (rest := []) rfl (Nat.le_of_ble_eq_true rfl) dX3_copy_2 (fun hc1 H locs hd => ?_) (fun hc1 hk1 H locs hd => ?_)
  · replace he := i_t hc1 he
    refine lv_astoreN (lv' := [(6, .null), (0, .ref _), (1, .int _), (2, .int _), (3, .int _), (4, .int _), (5, .int _)]) hx hb dX3_copy_5 hl (by decide) rfl (fun ls hl => ?_)
    refine lv_aload_n hx hb dX3_copy_7 rfl (lv_at hl 1 rfl) ?_
    refine lv_iload_n hx hb dX3_copy_8 rfl (lv_at hl 4 rfl) ?_
    replace he := b_some he
    obtain ⟨⟨r2, V2⟩, h2, he⟩ := he
    refine kVQ C hd hl.1 kw_X3_180 (by decide) cC24 rfl (c_X3_sheetOf l G ks hJ h2) ⟨Nat.le_of_ble_eq_true rfl, Nat.le_of_ble_eq_true rfl⟩ rfl (rest := []) rfl (Nat.le_of_ble_eq_true rfl) dX3_copy_9 (fun hc2 H locs hd => ?_) (fun hc2 hk2 H locs hd => ?_)
    · replace he := i_t hc2 he
      refine lv_astoreN (lv' := [(7, .null), (6, .null), (0, .ref _), (1, .int _), (2, .int _), (3, .int _), (4, .int _), (5, .int _)]) hx hb dX3_copy_12 hl (by decide) rfl (fun ls hl => ?_)
      refine lv_aloadN hx hb dX3_copy_14 (lv_at hl 1 rfl) ?_
      refine lv_ifnullN (tgt := 24) hx hb dX3_copy_16 (by decide) ?_
      refine lv_aload_n hx hb dX3_copy_24 rfl (lv_at hl 2 rfl) ?_
      refine lv_ldc hx hb hown (hts _ uw226) dX3_copy_25 ?_
      replace he := b_some he
      obtain ⟨⟨r3, V3⟩, h3, he⟩ := he
      refine kVI C hd hl.1 kw_X3_46 (by decide) cC24 rfl (c_X3_finding l G ks hJ h3) ⟨Nat.le_of_ble_eq_true rfl, Nat.le_of_ble_eq_true rfl⟩ rfl (rest := []) rfl (Nat.le_of_ble_eq_true rfl) dX3_copy_27 (fun H locs hd => ?_)
      exact retIe (cf := (cC G)) C hr hlk hd he dX3_copy_30
    · replace he := i_f hc2 he
      refine lv_astore (lv' := [(7, .ref _), (6, .null), (0, .ref _), (1, .int _), (2, .int _), (3, .int _), (4, .int _), (5, .int _)]) hx hb dX3_copy_12 hl (by decide) rfl (fun ls hl => ?_)
      refine lv_aloadN hx hb dX3_copy_14 (lv_at hl 1 rfl) ?_
      refine lv_ifnullN (tgt := 24) hx hb dX3_copy_16 (by decide) ?_
      refine lv_aload_n hx hb dX3_copy_24 rfl (lv_at hl 2 rfl) ?_
      refine lv_ldc hx hb hown (hts _ uw226) dX3_copy_25 ?_
      replace he := b_some he
      obtain ⟨⟨r4, V4⟩, h4, he⟩ := he
      refine kVI C hd hl.1 kw_X3_46 (by decide) cC24 rfl (c_X3_finding l G ks hJ h4) ⟨Nat.le_of_ble_eq_true rfl, Nat.le_of_ble_eq_true rfl⟩ rfl (rest := []) rfl (Nat.le_of_ble_eq_true rfl) dX3_copy_27 (fun H locs hd => ?_)
      exact retIe (cf := (cC G)) C hr hlk hd he dX3_copy_30
  · replace he := i_f hc1 he
    refine lv_astore (lv' := [(6, .ref _), (0, .ref _), (1, .int _), (2, .int _), (3, .int _), (4, .int _), (5, .int _)]) hx hb dX3_copy_5 hl (by decide) rfl (fun ls hl => ?_)
    refine lv_aload_n hx hb dX3_copy_7 rfl (lv_at hl 1 rfl) ?_
    refine lv_iload_n hx hb dX3_copy_8 rfl (lv_at hl 4 rfl) ?_
    replace he := b_some he
    obtain ⟨⟨r5, V5⟩, h5, he⟩ := he
    refine kVQ C hd hl.1 kw_X3_180 (by decide) cC24 rfl (c_X3_sheetOf l G ks hJ h5) ⟨Nat.le_of_ble_eq_true rfl, Nat.le_of_ble_eq_true rfl⟩ rfl (rest := []) rfl (Nat.le_of_ble_eq_true rfl) dX3_copy_9 (fun hc5 H locs hd => ?_) (fun hc5 hk5 H locs hd => ?_)
    · replace he := i_t hc5 he
      refine lv_astoreN (lv' := [(7, .null), (6, .ref _), (0, .ref _), (1, .int _), (2, .int _), (3, .int _), (4, .int _), (5, .int _)]) hx hb dX3_copy_12 hl (by decide) rfl (fun ls hl => ?_)
      refine lv_aload hx hb dX3_copy_14 (lv_at hl 1 rfl) ?_
      refine lv_ifnull hx hb dX3_copy_16 ?_
      refine lv_aloadN hx hb dX3_copy_19 (lv_at hl 0 rfl) ?_
      refine lv_ifnonnullN hx hb dX3_copy_21 ?_
      refine lv_aload_n hx hb dX3_copy_24 rfl (lv_at hl 2 rfl) ?_
      refine lv_ldc hx hb hown (hts _ uw226) dX3_copy_25 ?_
      replace he := b_some he
      obtain ⟨⟨r6, V6⟩, h6, he⟩ := he
      refine kVI C hd hl.1 kw_X3_46 (by decide) cC24 rfl (c_X3_finding l G ks hJ h6) ⟨Nat.le_of_ble_eq_true rfl, Nat.le_of_ble_eq_true rfl⟩ rfl (rest := []) rfl (Nat.le_of_ble_eq_true rfl) dX3_copy_27 (fun H locs hd => ?_)
      exact retIe (cf := (cC G)) C hr hlk hd he dX3_copy_30
    · replace he := i_f hc5 he
      refine lv_astore (lv' := [(7, .ref _), (6, .ref _), (0, .ref _), (1, .int _), (2, .int _), (3, .int _), (4, .int _), (5, .int _)]) hx hb dX3_copy_12 hl (by decide) rfl (fun ls hl => ?_)
      refine lv_aload hx hb dX3_copy_14 (lv_at hl 1 rfl) ?_
      refine lv_ifnull hx hb dX3_copy_16 ?_
      refine lv_aload hx hb dX3_copy_19 (lv_at hl 0 rfl) ?_
      refine lv_ifnonnull (tgt := 31) hx hb dX3_copy_21 (by decide) ?_
      refine lv_aload hx hb dX3_copy_31 (lv_at hl 1 rfl) ?_
      replace he := b_some he
      obtain ⟨⟨r7, V7⟩, h7, he⟩ := he
      refine kVZ C hd hl.1 kw_X3_191 (lt_sh hk1) (cC_sh hk1) rfl (c_X1_isMissing l G ks hJ hk1 h7) ⟨Nat.le_of_ble_eq_true rfl, Nat.le_of_ble_eq_true rfl⟩ rfl (rest := []) rfl (Nat.le_of_ble_eq_true rfl) dX3_copy_33 (fun H locs hz7 hd => ?_)
      refine lv_if_ne (tgt := 47) hx hb dX3_copy_36 (by decide) (fun hc8 => ?_) (fun hc8 => ?_)
      · replace he := i_f hc8 he
        refine lv_aload_n hx hb dX3_copy_47 rfl (lv_at hl 2 rfl) ?_
        refine lv_ldc hx hb hown (hts _ uw640) dX3_copy_48 ?_
        replace he := b_some he
        obtain ⟨⟨r9, V9⟩, h9, he⟩ := he
        refine kVI C hd hl.1 kw_X3_46 (by decide) cC24 rfl (c_X3_finding l G ks hJ h9) ⟨Nat.le_of_ble_eq_true rfl, Nat.le_of_ble_eq_true rfl⟩ rfl (rest := []) rfl (Nat.le_of_ble_eq_true rfl) dX3_copy_50 (fun H locs hd => ?_)
        exact retIe (cf := (cC G)) C hr hlk hd he dX3_copy_53
      · replace he := i_t hc8 he
        refine lv_aload hx hb dX3_copy_39 (lv_at hl 0 rfl) ?_
        replace he := b_some he
        obtain ⟨⟨r10, V10⟩, h10, he⟩ := he
        refine kVZ C hd hl.1 kw_X3_191 (lt_sh hk5) (cC_sh hk5) rfl (c_X1_isMissing l G ks hJ hk5 h10) ⟨Nat.le_of_ble_eq_true rfl, Nat.le_of_ble_eq_true rfl⟩ rfl (rest := []) rfl (Nat.le_of_ble_eq_true rfl) dX3_copy_41 (fun H locs hz10 hd => ?_)
        refine lv_if_eq (tgt := 54) hx hb dX3_copy_44 (by decide) (fun hc11 => ?_) (fun hc11 => ?_)
        · replace he := i_t hc11 he
          refine lv_aload hx hb dX3_copy_54 (lv_at hl 1 rfl) ?_
          refine rgetf C hd (lt_sh hk1) (cC_sh hk1) rfl tgX1 0 (by decide) uw186 rfl dX3_copy_56 ?_
          refine lv_aload hx hb dX3_copy_59 (lv_at hl 0 rfl) ?_
          refine rgetf C hd (lt_sh hk5) (cC_sh hk5) rfl tgX1 0 (by decide) uw186 rfl dX3_copy_61 ?_
          refine lv_icmp_eq (tgt := 74) hx hb dX3_copy_64 (by decide) (fun hc12 => ?_) (fun hc12 => ?_)
          · replace he := i_t hc12 he
            refine lv_aload hx hb dX3_copy_74 (lv_at hl 1 rfl) ?_
            refine lv_iload_n hx hb dX3_copy_76 rfl (lv_at hl 4 rfl) ?_
            refine lv_iload hx hb dX3_copy_77 (lv_at hl 7 rfl) ?_
            replace he := b_some he
            obtain ⟨⟨r13, V13⟩, h13, he⟩ := he
            refine kVZ C hd hl.1 kw_X3_206 (lt_sh hk1) (cC_sh hk1) rfl (c_X1_hasRun l G ks hJ hk1 h13) ⟨Nat.le_of_ble_eq_true rfl, Nat.le_of_ble_eq_true rfl⟩ rfl (rest := []) rfl (Nat.le_of_ble_eq_true rfl) dX3_copy_79 (fun H locs hz13 hd => ?_)
            refine lv_if_eq (tgt := 97) hx hb dX3_copy_82 (by decide) (fun hc14 => ?_) (fun hc14 => ?_)
            · replace he := i_t hc14 he
              refine lv_aload_n hx hb dX3_copy_97 rfl (lv_at hl 2 rfl) ?_
              refine lv_ldc hx hb hown (hts _ uw226) dX3_copy_98 ?_
              replace he := b_some he
              obtain ⟨⟨r15, V15⟩, h15, he⟩ := he
              refine kVI C hd hl.1 kw_X3_46 (by decide) cC24 rfl (c_X3_finding l G ks hJ h15) ⟨Nat.le_of_ble_eq_true rfl, Nat.le_of_ble_eq_true rfl⟩ rfl (rest := []) rfl (Nat.le_of_ble_eq_true rfl) dX3_copy_100 (fun H locs hd => ?_)
              exact retIe (cf := (cC G)) C hr hlk hd he dX3_copy_103
            · replace he := i_f hc14 he
              refine lv_aload hx hb dX3_copy_85 (lv_at hl 0 rfl) ?_
              refine lv_iload hx hb dX3_copy_87 (lv_at hl 6 rfl) ?_
              refine lv_iload hx hb dX3_copy_89 (lv_at hl 7 rfl) ?_
              replace he := b_some he
              obtain ⟨⟨r16, V16⟩, h16, he⟩ := he
              refine kVZ C hd hl.1 kw_X3_206 (lt_sh hk5) (cC_sh hk5) rfl (c_X1_hasRun l G ks hJ hk5 h16) ⟨Nat.le_of_ble_eq_true rfl, Nat.le_of_ble_eq_true rfl⟩ rfl (rest := []) rfl (Nat.le_of_ble_eq_true rfl) dX3_copy_91 (fun H locs hz16 hd => ?_)
              refine lv_if_ne (tgt := 104) hx hb dX3_copy_94 (by decide) (fun hc17 => ?_) (fun hc17 => ?_)
              · replace he := i_f hc17 he
                refine lv_aload hx hb dX3_copy_104 (lv_at hl 1 rfl) ?_
                refine rgetf C hd (lt_sh hk1) (cC_sh hk1) rfl tgX1 2 (by decide) uw190 rfl dX3_copy_106 ?_
                refine lv_iload_n hx hb dX3_copy_109 rfl (lv_at hl 4 rfl) ?_
                refine lv_aload hx hb dX3_copy_110 (lv_at hl 0 rfl) ?_
                refine rgetf C hd (lt_sh hk5) (cC_sh hk5) rfl tgX1 2 (by decide) uw190 rfl dX3_copy_112 ?_
                refine lv_iload hx hb dX3_copy_115 (lv_at hl 6 rfl) ?_
                refine lv_iload hx hb dX3_copy_117 (lv_at hl 7 rfl) ?_
                replace he := g_some he
                obtain ⟨hi18, he⟩ := he
                replace he := bv_ex he
                obtain ⟨V19, e19, he⟩ := he
                refine rcpJ (cell' := cC G V19) (rest := []) C hd hl.1 (lt_sn hk1) (cC_sn hk1) (lt_sn hk5) (cC_sn hk5) aw_X3 hi18 (cC_sn_c hk5 e19) (cC_neCJ e19) ⟨Nat.le_of_ble_eq_true rfl, Nat.le_of_ble_eq_true rfl⟩ (Nat.le_of_ble_eq_true rfl) dX3_copy_119 (fun H locs hd => ?_)
                refine lv_iload hx hb dX3_copy_122 (lv_at hl 7 rfl) ?_
                exact retIe (cf := (cC G)) C hr hlk hd he dX3_copy_124
              · replace he := i_t hc17 he
                refine lv_aload_n hx hb dX3_copy_97 rfl (lv_at hl 2 rfl) ?_
                refine lv_ldc hx hb hown (hts _ uw226) dX3_copy_98 ?_
                replace he := b_some he
                obtain ⟨⟨r20, V20⟩, h20, he⟩ := he
                refine kVI C hd hl.1 kw_X3_46 (by decide) cC24 rfl (c_X3_finding l G ks hJ h20) ⟨Nat.le_of_ble_eq_true rfl, Nat.le_of_ble_eq_true rfl⟩ rfl (rest := []) rfl (Nat.le_of_ble_eq_true rfl) dX3_copy_100 (fun H locs hd => ?_)
                exact retIe (cf := (cC G)) C hr hlk hd he dX3_copy_103
          · replace he := i_f hc12 he
            refine lv_aload_n hx hb dX3_copy_67 rfl (lv_at hl 2 rfl) ?_
            refine lv_ldc hx hb hown (hts _ uw316) dX3_copy_68 ?_
            replace he := b_some he
            obtain ⟨⟨r21, V21⟩, h21, he⟩ := he
            refine kVI C hd hl.1 kw_X3_46 (by decide) cC24 rfl (c_X3_finding l G ks hJ h21) ⟨Nat.le_of_ble_eq_true rfl, Nat.le_of_ble_eq_true rfl⟩ rfl (rest := []) rfl (Nat.le_of_ble_eq_true rfl) dX3_copy_70 (fun H locs hd => ?_)
            exact retIe (cf := (cC G)) C hr hlk hd he dX3_copy_73
        · replace he := i_f hc11 he
          refine lv_aload_n hx hb dX3_copy_47 rfl (lv_at hl 2 rfl) ?_
          refine lv_ldc hx hb hown (hts _ uw640) dX3_copy_48 ?_
          replace he := b_some he
          obtain ⟨⟨r22, V22⟩, h22, he⟩ := he
          refine kVI C hd hl.1 kw_X3_46 (by decide) cC24 rfl (c_X3_finding l G ks hJ h22) ⟨Nat.le_of_ble_eq_true rfl, Nat.le_of_ble_eq_true rfl⟩ rfl (rest := []) rfl (Nat.le_of_ble_eq_true rfl) dX3_copy_50 (fun H locs hd => ?_)
          exact retIe (cf := (cC G)) C hr hlk hd he dX3_copy_53
set_option maxRecDepth 100000 in
set_option maxHeartbeats 4000000 in
theorem c_X3_lays (l : Launch) (G : Gd) (ks : Ks) (hJ : Inj 37 G.2.2) {a1 : Int32} {V V' : VV} {r : Int32} (he : f_X3_lays a1 V = some (r, V')) : MI l 37 G (XC G ks) yX3_lays cX3_lays 7 1 22 [.ref (G.2.2 24), .int a1] (cC G V) (cC G V') r := by
  refine walk_of (own := RX3) (by decide) rfl hJ (xs_C G ks) (Nat.le_of_ble_eq_true rfl) ?_
  intro p e s m below meth c C hr hlk ls hl hd
  have hl : lv_has ls 7 [(0, .ref (G.2.2 24)), (1, .int a1)] := hl
  obtain ⟨⟨hx, hb, hml, hown, hts⟩, -⟩ := id C
  have L36 : ∀ (y2 : Nat) (hy2 : y2 < 4), ∀ (fuel : Nat), ∀ (x3 : Int32) (x4 : Int32) (V : VV) (H : Heap) (locs : List Loc) (ls : Array Slot), lv_has ls 7 [(0, .ref (G.2.2 24)), (2, .ref (G.2.2 (29 + 2 * y2))), (3, .int x3), (4, .int x4)] → Dy 37 G (cC G V) s H locs → f_X3_lays_L36 y2 fuel x3 x4 V = some (r, V') → W p l e (rmF 1 22) s m ([.ref (G.2.2 24), .int a1] : List Value).toArray below meth c H locs 0 0 (MQ below (QI 37 G (cC G V') (fun r' => r' = r)) ([.ref (G.2.2 24), .int a1] : List Value).toArray s 0 0 (inA 37 G.2.2)) (F0 m 36 ls []) := by
    intro y2 hy2
    intro fuel
    induction fuel with
    | zero => intro x3 x4 V H locs ls hl hd he; simp [f_X3_lays_L36] at he
    | succ n ih36 =>
      intro x3 x4 V H locs ls hl hd he
      rw [f_X3_lays_L36] at he
      refine lv_iload hx hb dX3_lays_36 (lv_at hl 3 rfl) ?_
      refine lv_aload_n hx hb dX3_lays_38 rfl (lv_at hl 1 rfl) ?_
      refine rgetf C hd (lt_sh hy2) (cC_sh hy2) rfl tgX1 1 (by decide) uw188 rfl dX3_lays_39 ?_
      refine lv_icmp_ge (tgt := 104) hx hb dX3_lays_42 (by decide) (fun hc5 => ?_) (fun hc5 => ?_)
      · replace he := i_t hc5 he
        refine lv_iload_n hx hb dX3_lays_104 rfl (lv_at hl 2 rfl) ?_
        exact retIe (cf := (cC G)) C hr hlk hd he dX3_lays_105
      · replace he := i_f hc5 he
        refine lv_iload hx hb dX3_lays_45 (lv_at hl 3 rfl) ?_
        refine lv_aload_n hx hb dX3_lays_47 rfl (lv_at hl 0 rfl) ?_
        refine rgetf C hd (by decide) cC24 rfl tgX3 0 (by decide) uw199 rfl dX3_lays_48 ?_
        refine rgetf C hd (lt_moor (by decide)) (cC_moor (by decide)) rfl tgX0 3 (by decide) uw108 rfl dX3_lays_51 ?_
        refine lv_icmp_ge (tgt := 104) hx hb dX3_lays_54 (by decide) (fun hc6 => ?_) (fun hc6 => ?_)
        · replace he := i_t hc6 he
          refine lv_iload_n hx hb dX3_lays_104 rfl (lv_at hl 2 rfl) ?_
          exact retIe (cf := (cC G)) C hr hlk hd he dX3_lays_105
        · replace he := i_f hc6 he
          refine lv_aload_n hx hb dX3_lays_57 rfl (lv_at hl 1 rfl) ?_
          refine rgetf C hd (lt_sh hy2) (cC_sh hy2) rfl tgX1 2 (by decide) uw190 rfl dX3_lays_58 ?_
          refine lv_iload hx hb dX3_lays_61 (lv_at hl 3 rfl) ?_
          replace he := g_some he
          obtain ⟨hi7, he⟩ := he
          refine rlald C hd (lt_sn hy2) (cC_sn hy2) hi7 dX3_lays_63 ?_
          refine lv_lstore (lv' := [(5, .long _), (0, .ref _), (2, .ref _), (3, .int _), (4, .int _)]) hx hb dX3_lays_64 hl (by decide) rfl (fun ls hl => ?_)
          refine lv_lload hx hb dX3_lays_66 (lv_at hl 0 rfl) ?_
          refine lv_lconst (v := 0) hx hb dX3_lays_68 (by decide) ?_
          refine W.lcmp hx hb dX3_lays_69 ?_
          refine lv_if_lt (tgt := 98) hx hb dX3_lays_70 (by decide) (fun hc8 => ?_) (fun hc8 => ?_)
          · replace he := i_t hc8 he
            refine lv_iinc (v := _ + 1) (lv' := [(4, .int _), (5, .long _), (0, .ref _), (2, .ref _), (3, .int _)]) hx hb dX3_lays_98 hl (k := 4) rfl rfl (by decide) rfl (fun ls hl => ?_)
            refine lv_goto (tgt := 36) hx hb dX3_lays_101 (by decide) ?_
            exact ih36 _ _ _ _ _ _ (lv_sub hl [2, 3, 4, 0] rfl) hd he
          · replace he := i_f hc8 he
            refine lv_lload hx hb dX3_lays_73 (lv_at hl 0 rfl) ?_
            refine lv_ldc2 hx hb hown (hts _ uw658) dX3_lays_75 ?_
            refine W.lcmp hx hb dX3_lays_78 ?_
            refine lv_if_ge (tgt := 98) hx hb dX3_lays_79 (by decide) (fun hc9 => ?_) (fun hc9 => ?_)
            · replace he := i_t hc9 he
              refine lv_iinc (v := _ + 1) (lv' := [(4, .int _), (5, .long _), (0, .ref _), (2, .ref _), (3, .int _)]) hx hb dX3_lays_98 hl (k := 4) rfl rfl (by decide) rfl (fun ls hl => ?_)
              refine lv_goto (tgt := 36) hx hb dX3_lays_101 (by decide) ?_
              exact ih36 _ _ _ _ _ _ (lv_sub hl [2, 3, 4, 0] rfl) hd he
            · replace he := i_f hc9 he
              refine lv_aload_n hx hb dX3_lays_82 rfl (lv_at hl 1 rfl) ?_
              refine rgetf C hd (by decide) cC24 rfl tgX3 0 (by decide) uw199 rfl dX3_lays_83 ?_
              refine rgetf C hd (lt_moor (by decide)) (cC_moor (by decide)) rfl tgX0 8 (by decide) uw120 rfl dX3_lays_86 ?_
              refine lv_iload hx hb dX3_lays_89 (lv_at hl 4 rfl) ?_
              refine lv_lload hx hb dX3_lays_91 (lv_at hl 0 rfl) ?_
              refine lv_l2i hx hb dX3_lays_93 rfl ?_
              replace he := g_some he
              obtain ⟨hi10, he⟩ := he
              replace he := bv_ex he
              obtain ⟨V11, e11, he⟩ := he
              refine riast (cell' := (cC G) V11) C hd (lt_marr (by decide) 5 (by decide)) (cC_marr (by decide) 5 (by decide) (by decide)) hi10 (cC_marr_w (by decide) 5 (by decide) (by decide) e11) (cC_ne e11) dX3_lays_94 (fun H locs hd => ?_)
              refine lv_iinc (v := _ + 1) (lv' := [(3, .int _), (5, .long _), (0, .ref _), (2, .ref _), (4, .int _)]) hx hb dX3_lays_95 hl (k := 3) rfl rfl (by decide) rfl (fun ls hl => ?_)
              refine lv_iinc (v := _ + 1) (lv' := [(4, .int _), (3, .int _), (5, .long _), (0, .ref _), (2, .ref _)]) hx hb dX3_lays_98 hl (k := 4) rfl rfl (by decide) rfl (fun ls hl => ?_)
              refine lv_goto (tgt := 36) hx hb dX3_lays_101 (by decide) ?_
              exact ih36 _ _ _ _ _ _ (lv_sub hl [3, 4, 1, 0] rfl) hd he
  unfold f_X3_lays at he
  refine lv_aload_n hx hb dX3_lays_0 rfl (lv_at hl 0 rfl) ?_
  refine lv_iload_n hx hb dX3_lays_1 rfl (lv_at hl 1 rfl) ?_
  replace he := b_some he
  obtain ⟨⟨r1, V1⟩, h1, he⟩ := he
  refine kVQ C hd hl.1 kw_X3_180 (by decide) cC24 rfl (c_X3_sheetOf l G ks hJ h1) ⟨Nat.le_of_ble_eq_true rfl, Nat.le_of_ble_eq_true rfl⟩ rfl (rest := []) rfl (Nat.le_of_ble_eq_true rfl) dX3_lays_2 (fun hc1 H locs hd => ?_) (fun hc1 hk1 H locs hd => ?_)
  · replace he := i_t hc1 he
    refine lv_astore_nN (lv' := [(2, .null), (0, .ref _), (1, .int _)]) hx hb dX3_lays_5 rfl hl (by decide) rfl (fun ls hl => ?_)
    refine lv_aload_nN hx hb dX3_lays_6 rfl (lv_at hl 0 rfl) ?_
    refine lv_ifnonnullN hx hb dX3_lays_7 ?_
    refine lv_aload_n hx hb dX3_lays_10 rfl (lv_at hl 1 rfl) ?_
    refine lv_ldc hx hb hown (hts _ uw226) dX3_lays_11 ?_
    replace he := b_some he
    obtain ⟨⟨r2, V2⟩, h2, he⟩ := he
    refine kVI C hd hl.1 kw_X3_46 (by decide) cC24 rfl (c_X3_finding l G ks hJ h2) ⟨Nat.le_of_ble_eq_true rfl, Nat.le_of_ble_eq_true rfl⟩ rfl (rest := []) rfl (Nat.le_of_ble_eq_true rfl) dX3_lays_13 (fun H locs hd => ?_)
    exact retIe (cf := (cC G)) C hr hlk hd he dX3_lays_16
  · replace he := i_f hc1 he
    refine lv_astore_n (lv' := [(2, .ref _), (0, .ref _), (1, .int _)]) hx hb dX3_lays_5 rfl hl (by decide) rfl (fun ls hl => ?_)
    refine lv_aload_n hx hb dX3_lays_6 rfl (lv_at hl 0 rfl) ?_
    refine lv_ifnonnull (tgt := 17) hx hb dX3_lays_7 (by decide) ?_
    refine lv_aload_n hx hb dX3_lays_17 rfl (lv_at hl 0 rfl) ?_
    replace he := b_some he
    obtain ⟨⟨r3, V3⟩, h3, he⟩ := he
    refine kVZ C hd hl.1 kw_X3_191 (lt_sh hk1) (cC_sh hk1) rfl (c_X1_isMissing l G ks hJ hk1 h3) ⟨Nat.le_of_ble_eq_true rfl, Nat.le_of_ble_eq_true rfl⟩ rfl (rest := []) rfl (Nat.le_of_ble_eq_true rfl) dX3_lays_18 (fun H locs hz3 hd => ?_)
    refine lv_if_eq (tgt := 31) hx hb dX3_lays_21 (by decide) (fun hc4 => ?_) (fun hc4 => ?_)
    · replace he := i_t hc4 he
      refine lv_iconst (v := 0) hx hb dX3_lays_31 (by decide) ?_
      refine lv_istore_n (lv' := [(3, .int _), (2, .ref _), (0, .ref _), (1, .int _)]) hx hb dX3_lays_32 rfl hl (by decide) rfl (fun ls hl => ?_)
      refine lv_iconst (v := 0) hx hb dX3_lays_33 (by decide) ?_
      refine lv_istore (lv' := [(4, .int _), (3, .int _), (2, .ref _), (0, .ref _), (1, .int _)]) hx hb dX3_lays_34 hl (by decide) rfl (fun ls hl => ?_)
      exact L36 _ hk1 200 _ _ _ _ _ _ (lv_sub hl [3, 2, 1, 0] rfl) hd he
    · replace he := i_f hc4 he
      refine lv_aload_n hx hb dX3_lays_24 rfl (lv_at hl 1 rfl) ?_
      refine lv_ldc hx hb hown (hts _ uw640) dX3_lays_25 ?_
      replace he := b_some he
      obtain ⟨⟨r12, V12⟩, h12, he⟩ := he
      refine kVI C hd hl.1 kw_X3_46 (by decide) cC24 rfl (c_X3_finding l G ks hJ h12) ⟨Nat.le_of_ble_eq_true rfl, Nat.le_of_ble_eq_true rfl⟩ rfl (rest := []) rfl (Nat.le_of_ble_eq_true rfl) dX3_lays_27 (fun H locs hd => ?_)
      exact retIe (cf := (cC G)) C hr hlk hd he dX3_lays_30
set_option maxRecDepth 100000 in
set_option maxHeartbeats 4000000 in
theorem c_X3_sheetAndWalkerFinding (l : Launch) (G : Gd) (ks : Ks) (hJ : Inj 37 G.2.2) {a1 : Int32} {a2 : Int32} {V V' : VV} {r : Int32} (he : f_X3_sheetAndWalkerFinding a1 a2 V = some (r, V')) : MI l 37 G (XC G ks) yX3_sheetAndWalkerFinding cX3_sheetAndWalkerFinding 4 1 21 [.ref (G.2.2 24), .int a1, .int a2] (cC G V) (cC G V') r := by
  refine walk_of (own := RX3) (by decide) rfl hJ (xs_C G ks) (Nat.le_of_ble_eq_true rfl) ?_
  intro p e s m below meth c C hr hlk ls hl hd
  have hl : lv_has ls 4 [(0, .ref (G.2.2 24)), (1, .int a1), (2, .int a2)] := hl
  obtain ⟨⟨hx, hb, hml, hown, hts⟩, -⟩ := id C
  unfold f_X3_sheetAndWalkerFinding at he
  refine lv_aload_n hx hb dX3_sheetAndWalkerFinding_0 rfl (lv_at hl 0 rfl) ?_
  refine lv_iload_n hx hb dX3_sheetAndWalkerFinding_1 rfl (lv_at hl 1 rfl) ?_
  replace he := b_some he
  obtain ⟨⟨r1, V1⟩, h1, he⟩ := he
  refine kVQ C hd hl.1 kw_X3_180 (by decide) cC24 rfl (c_X3_sheetOf l G ks hJ h1) ⟨Nat.le_of_ble_eq_true rfl, Nat.le_of_ble_eq_true rfl⟩ rfl (rest := []) rfl (Nat.le_of_ble_eq_true rfl) dX3_sheetAndWalkerFinding_2 (fun hc1 H locs hd => ?_) (fun hc1 hk1 H locs hd => ?_)
  · replace he := i_t hc1 he
    refine lv_astore_nN (lv' := [(3, .null), (0, .ref _), (1, .int _), (2, .int _)]) hx hb dX3_sheetAndWalkerFinding_5 rfl hl (by decide) rfl (fun ls hl => ?_)
    refine lv_aload_nN hx hb dX3_sheetAndWalkerFinding_6 rfl (lv_at hl 0 rfl) ?_
    refine lv_ifnonnullN hx hb dX3_sheetAndWalkerFinding_7 ?_
    refine lv_ldc hx hb hown (hts _ uw226) dX3_sheetAndWalkerFinding_10 ?_
    exact retIe (cf := (cC G)) C hr hlk hd he dX3_sheetAndWalkerFinding_12
  · replace he := i_f hc1 he
    refine lv_astore_n (lv' := [(3, .ref _), (0, .ref _), (1, .int _), (2, .int _)]) hx hb dX3_sheetAndWalkerFinding_5 rfl hl (by decide) rfl (fun ls hl => ?_)
    refine lv_aload_n hx hb dX3_sheetAndWalkerFinding_6 rfl (lv_at hl 0 rfl) ?_
    refine lv_ifnonnull (tgt := 13) hx hb dX3_sheetAndWalkerFinding_7 (by decide) ?_
    refine lv_aload_n hx hb dX3_sheetAndWalkerFinding_13 rfl (lv_at hl 0 rfl) ?_
    replace he := b_some he
    obtain ⟨⟨r2, V2⟩, h2, he⟩ := he
    refine kVZ C hd hl.1 kw_X3_191 (lt_sh hk1) (cC_sh hk1) rfl (c_X1_isMissing l G ks hJ hk1 h2) ⟨Nat.le_of_ble_eq_true rfl, Nat.le_of_ble_eq_true rfl⟩ rfl (rest := []) rfl (Nat.le_of_ble_eq_true rfl) dX3_sheetAndWalkerFinding_14 (fun H locs hz2 hd => ?_)
    refine lv_if_eq (tgt := 23) hx hb dX3_sheetAndWalkerFinding_17 (by decide) (fun hc3 => ?_) (fun hc3 => ?_)
    · replace he := i_t hc3 he
      refine lv_aload_n hx hb dX3_sheetAndWalkerFinding_23 rfl (lv_at hl 1 rfl) ?_
      refine rgetf C hd (by decide) cC24 rfl tgX3 0 (by decide) uw199 rfl dX3_sheetAndWalkerFinding_24 ?_
      refine lv_iload_n hx hb dX3_sheetAndWalkerFinding_27 rfl (lv_at hl 3 rfl) ?_
      replace he := b_some he
      obtain ⟨⟨r4, V4⟩, h4, he⟩ := he
      refine kVZ C hd hl.1 kw_X3_76 (lt_moor (by decide)) (cC_moor (by decide)) rfl (c_X0_has l G ks hJ (by decide) h4) ⟨Nat.le_of_ble_eq_true rfl, Nat.le_of_ble_eq_true rfl⟩ rfl (rest := []) rfl (Nat.le_of_ble_eq_true rfl) dX3_sheetAndWalkerFinding_28 (fun H locs hz4 hd => ?_)
      refine lv_if_eq (tgt := 38) hx hb dX3_sheetAndWalkerFinding_31 (by decide) (fun hc5 => ?_) (fun hc5 => ?_)
      · replace he := i_t hc5 he
        refine lv_ldc hx hb hown (hts _ uw226) dX3_sheetAndWalkerFinding_38 ?_
        exact retIe (cf := (cC G)) C hr hlk hd he dX3_sheetAndWalkerFinding_40
      · replace he := i_f hc5 he
        refine lv_iconst (v := 0) hx hb dX3_sheetAndWalkerFinding_34 (by decide) ?_
        refine lv_goto (tgt := 40) hx hb dX3_sheetAndWalkerFinding_35 (by decide) ?_
        exact retIe (cf := (cC G)) C hr hlk hd he dX3_sheetAndWalkerFinding_40
    · replace he := i_f hc3 he
      refine lv_ldc hx hb hown (hts _ uw640) dX3_sheetAndWalkerFinding_20 ?_
      exact retIe (cf := (cC G)) C hr hlk hd he dX3_sheetAndWalkerFinding_22
set_option maxRecDepth 100000 in
set_option maxHeartbeats 4000000 in
theorem c_X3_book (l : Launch) (G : Gd) (ks : Ks) (hJ : Inj 37 G.2.2) {a1 : Int32} {a2 : Int32} {V V' : VV} {r : Int32} (he : f_X3_book a1 a2 V = some (r, V')) : MI l 37 G (XC G ks) yX3_book cX3_book 6 4 87 [.ref (G.2.2 24), .int a1, .int a2] (cC G V) (cC G V') r := by
  refine walk_of (own := RX3) (by decide) rfl hJ (xs_C G ks) (Nat.le_of_ble_eq_true rfl) ?_
  intro p e s m below meth c C hr hlk ls hl hd
  have hl : lv_has ls 6 [(0, .ref (G.2.2 24)), (1, .int a1), (2, .int a2)] := hl
  obtain ⟨⟨hx, hb, hml, hown, hts⟩, -⟩ := id C
  have L43 : ∀ (y4 : Nat) (hy4 : y4 < 4), ∀ (fuel : Nat), ∀ (x2 : Int32) (x5 : Int32) (V : VV) (H : Heap) (locs : List Loc) (ls : Array Slot), lv_has ls 6 [(0, .ref (G.2.2 24)), (2, .int x2), (4, .ref (G.2.2 (29 + 2 * y4))), (5, .int x5)] → Dy 37 G (cC G V) s H locs → f_X3_book_L43 y4 fuel x2 x5 V = some (r, V') → W p l e (rmF 4 87) s m ([.ref (G.2.2 24), .int a1, .int a2] : List Value).toArray below meth c H locs 0 0 (MQ below (QI 37 G (cC G V') (fun r' => r' = r)) ([.ref (G.2.2 24), .int a1, .int a2] : List Value).toArray s 0 0 (inA 37 G.2.2)) (F0 m 43 ls []) := by
    intro y4 hy4
    intro fuel
    induction fuel with
    | zero => intro x2 x5 V H locs ls hl hd he; simp [f_X3_book_L43] at he
    | succ n ih43 =>
      intro x2 x5 V H locs ls hl hd he
      rw [f_X3_book_L43] at he
      refine lv_iload hx hb dX3_book_43 (lv_at hl 3 rfl) ?_
      refine lv_aload hx hb dX3_book_45 (lv_at hl 2 rfl) ?_
      refine rgetf C hd (lt_sh hy4) (cC_sh hy4) rfl tgX1 1 (by decide) uw188 rfl dX3_book_47 ?_
      refine lv_icmp_ge (tgt := 83) hx hb dX3_book_50 (by decide) (fun hc9 => ?_) (fun hc9 => ?_)
      · replace he := i_t hc9 he
        refine lv_aload hx hb dX3_book_83 (lv_at hl 2 rfl) ?_
        refine rgetf C hd (lt_sh hy4) (cC_sh hy4) rfl tgX1 1 (by decide) uw188 rfl dX3_book_85 ?_
        exact retIe (cf := (cC G)) C hr hlk hd he dX3_book_88
      · replace he := i_f hc9 he
        refine lv_aload hx hb dX3_book_53 (lv_at hl 2 rfl) ?_
        refine lv_iload hx hb dX3_book_55 (lv_at hl 3 rfl) ?_
        refine lv_aload_n hx hb dX3_book_57 rfl (lv_at hl 0 rfl) ?_
        refine rgetf C hd (by decide) cC24 rfl tgX3 1 (by decide) uw200 rfl dX3_book_58 ?_
        refine rgetf C hd (lt_moor (by decide)) (cC_moor (by decide)) rfl tgX0 5 (by decide) uw112 rfl dX3_book_61 ?_
        refine lv_iload_n hx hb dX3_book_64 rfl (lv_at hl 1 rfl) ?_
        replace he := g_some he
        obtain ⟨hi10, he⟩ := he
        refine riald C hd (lt_marr (by decide) 2 (by decide)) (cC_marr (by decide) 2 (by decide) (by decide)) hi10 dX3_book_65 ?_
        refine lv_i2l hx hb dX3_book_66 rfl ?_
        replace he := b_some he
        obtain ⟨V11, h11, he⟩ := he
        refine kVV C hd hl.1 kw_X3_199 (lt_sh hy4) (cC_sh hy4) rfl (c_X1_put l G ks hJ hy4 h11) ⟨Nat.le_of_ble_eq_true rfl, Nat.le_of_ble_eq_true rfl⟩ rfl (rest := []) rfl (Nat.le_of_ble_eq_true rfl) dX3_book_67 (fun H locs hd => ?_)
        refine lv_aload_n hx hb dX3_book_70 rfl (lv_at hl 0 rfl) ?_
        refine rgetf C hd (by decide) cC24 rfl tgX3 1 (by decide) uw200 rfl dX3_book_71 ?_
        replace he := b_some he
        obtain ⟨V12, h12, he⟩ := he
        refine kVV C hd hl.1 kw_X3_223 (lt_moor (by decide)) (cC_moor (by decide)) rfl (c_X0_passHour l G ks hJ (by decide) h12) ⟨Nat.le_of_ble_eq_true rfl, Nat.le_of_ble_eq_true rfl⟩ rfl (rest := []) rfl (Nat.le_of_ble_eq_true rfl) dX3_book_74 (fun H locs hd => ?_)
        refine lv_iinc (v := _ + 1) (lv' := [(5, .int _), (0, .ref _), (2, .int _), (4, .ref _)]) hx hb dX3_book_77 hl (k := 3) rfl rfl (by decide) rfl (fun ls hl => ?_)
        refine lv_goto (tgt := 43) hx hb dX3_book_80 (by decide) ?_
        exact ih43 _ _ _ _ _ _ (lv_sub hl [1, 2, 3, 0] rfl) hd he
  unfold f_X3_book at he
  refine lv_aload_n hx hb dX3_book_0 rfl (lv_at hl 0 rfl) ?_
  refine lv_iload_n hx hb dX3_book_1 rfl (lv_at hl 1 rfl) ?_
  refine lv_iload_n hx hb dX3_book_2 rfl (lv_at hl 2 rfl) ?_
  replace he := b_some he
  obtain ⟨⟨r1, V1⟩, h1, he⟩ := he
  refine kVI C hd hl.1 kw_X3_220 (by decide) cC24 rfl (c_X3_sheetAndWalkerFinding l G ks hJ h1) ⟨Nat.le_of_ble_eq_true rfl, Nat.le_of_ble_eq_true rfl⟩ rfl (rest := []) rfl (Nat.le_of_ble_eq_true rfl) dX3_book_3 (fun H locs hd => ?_)
  refine lv_istore_n (lv' := [(3, .int _), (0, .ref _), (1, .int _), (2, .int _)]) hx hb dX3_book_6 rfl hl (by decide) rfl (fun ls hl => ?_)
  refine lv_aload_n hx hb dX3_book_7 rfl (lv_at hl 1 rfl) ?_
  refine lv_iload_n hx hb dX3_book_8 rfl (lv_at hl 2 rfl) ?_
  replace he := b_some he
  obtain ⟨⟨r2, V2⟩, h2, he⟩ := he
  refine kVQ C hd hl.1 kw_X3_180 (by decide) cC24 rfl (c_X3_sheetOf l G ks hJ h2) ⟨Nat.le_of_ble_eq_true rfl, Nat.le_of_ble_eq_true rfl⟩ rfl (rest := []) rfl (Nat.le_of_ble_eq_true rfl) dX3_book_9 (fun hc2 H locs hd => ?_) (fun hc2 hk2 H locs hd => ?_)
  · replace he := i_t hc2 he
    refine lv_astoreN (lv' := [(4, .null), (3, .int _), (0, .ref _), (1, .int _), (2, .int _)]) hx hb dX3_book_12 hl (by decide) rfl (fun ls hl => ?_)
    refine lv_iload_n hx hb dX3_book_14 rfl (lv_at hl 1 rfl) ?_
    refine lv_if_ne (tgt := 23) hx hb dX3_book_15 (by decide) (fun hc3 => ?_) (fun hc3 => ?_)
    · replace he := i_f hc3 he
      refine lv_aload_n hx hb dX3_book_23 rfl (lv_at hl 2 rfl) ?_
      refine lv_iload_n hx hb dX3_book_24 rfl (lv_at hl 1 rfl) ?_
      replace he := b_some he
      obtain ⟨⟨r4, V4⟩, h4, he⟩ := he
      refine kVI C hd hl.1 kw_X3_46 (by decide) cC24 rfl (c_X3_finding l G ks hJ h4) ⟨Nat.le_of_ble_eq_true rfl, Nat.le_of_ble_eq_true rfl⟩ rfl (rest := []) rfl (Nat.le_of_ble_eq_true rfl) dX3_book_25 (fun H locs hd => ?_)
      exact retIe (cf := (cC G)) C hr hlk hd he dX3_book_28
    · replace he := i_t hc3 he
      refine lv_aloadN hx hb dX3_book_18 (lv_at hl 0 rfl) ?_
      refine lv_ifnonnullN hx hb dX3_book_20 ?_
      refine lv_aload_n hx hb dX3_book_23 rfl (lv_at hl 2 rfl) ?_
      refine lv_iload_n hx hb dX3_book_24 rfl (lv_at hl 1 rfl) ?_
      replace he := b_some he
      obtain ⟨⟨r5, V5⟩, h5, he⟩ := he
      refine kVI C hd hl.1 kw_X3_46 (by decide) cC24 rfl (c_X3_finding l G ks hJ h5) ⟨Nat.le_of_ble_eq_true rfl, Nat.le_of_ble_eq_true rfl⟩ rfl (rest := []) rfl (Nat.le_of_ble_eq_true rfl) dX3_book_25 (fun H locs hd => ?_)
      exact retIe (cf := (cC G)) C hr hlk hd he dX3_book_28
  · replace he := i_f hc2 he
    refine lv_astore (lv' := [(4, .ref _), (3, .int _), (0, .ref _), (1, .int _), (2, .int _)]) hx hb dX3_book_12 hl (by decide) rfl (fun ls hl => ?_)
    refine lv_iload_n hx hb dX3_book_14 rfl (lv_at hl 1 rfl) ?_
    refine lv_if_ne (tgt := 23) hx hb dX3_book_15 (by decide) (fun hc6 => ?_) (fun hc6 => ?_)
    · replace he := i_f hc6 he
      refine lv_aload_n hx hb dX3_book_23 rfl (lv_at hl 2 rfl) ?_
      refine lv_iload_n hx hb dX3_book_24 rfl (lv_at hl 1 rfl) ?_
      replace he := b_some he
      obtain ⟨⟨r7, V7⟩, h7, he⟩ := he
      refine kVI C hd hl.1 kw_X3_46 (by decide) cC24 rfl (c_X3_finding l G ks hJ h7) ⟨Nat.le_of_ble_eq_true rfl, Nat.le_of_ble_eq_true rfl⟩ rfl (rest := []) rfl (Nat.le_of_ble_eq_true rfl) dX3_book_25 (fun H locs hd => ?_)
      exact retIe (cf := (cC G)) C hr hlk hd he dX3_book_28
    · replace he := i_t hc6 he
      refine lv_aload hx hb dX3_book_18 (lv_at hl 0 rfl) ?_
      refine lv_ifnonnull (tgt := 29) hx hb dX3_book_20 (by decide) ?_
      refine lv_aload_n hx hb dX3_book_29 rfl (lv_at hl 2 rfl) ?_
      refine rgetf C hd (by decide) cC24 rfl tgX3 1 (by decide) uw200 rfl dX3_book_30 ?_
      refine lv_aload_n hx hb dX3_book_33 rfl (lv_at hl 2 rfl) ?_
      refine rgetf C hd (by decide) cC24 rfl tgX3 0 (by decide) uw199 rfl dX3_book_34 ?_
      replace he := b_some he
      obtain ⟨V8, h8, he⟩ := he
      refine kVV C hd hl.1 kw_X3_148 (lt_moor (by decide)) (cC_moor (by decide)) rfl (c_X0_takeFrom l G ks hJ (by decide) (by decide) h8) ⟨Nat.le_of_ble_eq_true rfl, Nat.le_of_ble_eq_true rfl⟩ rfl (rest := []) rfl (Nat.le_of_ble_eq_true rfl) dX3_book_37 (fun H locs hd => ?_)
      refine lv_iconst (v := 0) hx hb dX3_book_40 (by decide) ?_
      refine lv_istore (lv' := [(5, .int _), (4, .ref _), (3, .int _), (0, .ref _), (1, .int _), (2, .int _)]) hx hb dX3_book_41 hl (by decide) rfl (fun ls hl => ?_)
      exact L43 _ hk2 200 _ _ _ _ _ _ (lv_sub hl [3, 5, 1, 0] rfl) hd he
set_option maxRecDepth 100000 in
set_option maxHeartbeats 4000000 in
theorem c_X3_trialGoesBy (l : Launch) (G : Gd) (ks : Ks) (hJ : Inj 37 G.2.2) {k : Nat} {a2 : Int32} (hk : k < 4) {V V' : VV} {r : Int32} (he : f_X3_trialGoesBy k a2 V = some (r, V')) : MZ l 37 G (XC G ks) yX3_trialGoesBy cX3_trialGoesBy 4 4 87 [.ref (G.2.2 24), .ref (G.2.2 (29 + 2 * k)), .int a2] (cC G V) (cC G V') r := by
  refine walk_of (own := RX3) (by decide) rfl hJ (xs_C G ks) (Nat.le_of_ble_eq_true rfl) ?_
  intro p e s m below meth c C hr hlk ls hl hd
  have hl : lv_has ls 4 [(0, .ref (G.2.2 24)), (1, .ref (G.2.2 (29 + 2 * k))), (2, .int a2)] := hl
  obtain ⟨⟨hx, hb, hml, hown, hts⟩, -⟩ := id C
  have L2 : ∀ (fuel : Nat), ∀ (x2 : Int32) (x3 : Int32) (V : VV) (H : Heap) (locs : List Loc) (ls : Array Slot), lv_has ls 4 [(0, .ref (G.2.2 24)), (1, .ref (G.2.2 (29 + 2 * k))), (2, .int x2), (3, .int x3)] → Dy 37 G (cC G V) s H locs → f_X3_trialGoesBy_L2 k fuel x2 x3 V = some (r, V') → W p l e (rmF 4 87) s m ([.ref (G.2.2 24), .ref (G.2.2 (29 + 2 * k)), .int a2] : List Value).toArray below meth c H locs 0 0 (MQ below (QI 37 G (cC G V') (fun r' => r' = r ∧ narrow .boolean (.int r) = .int r)) ([.ref (G.2.2 24), .ref (G.2.2 (29 + 2 * k)), .int a2] : List Value).toArray s 0 0 (inA 37 G.2.2)) (F0 m 2 ls []) := by
    intro fuel
    induction fuel with
    | zero => intro x2 x3 V H locs ls hl hd he; simp [f_X3_trialGoesBy_L2] at he
    | succ n ih2 =>
      intro x2 x3 V H locs ls hl hd he
      rw [f_X3_trialGoesBy_L2] at he
      refine lv_iload_n hx hb dX3_trialGoesBy_2 rfl (lv_at hl 3 rfl) ?_
      refine lv_aload_n hx hb dX3_trialGoesBy_3 rfl (lv_at hl 1 rfl) ?_
      refine rgetf C hd (lt_sh hk) (cC_sh hk) rfl tgX1 1 (by decide) uw188 rfl dX3_trialGoesBy_4 ?_
      refine lv_icmp_ge (tgt := 45) hx hb dX3_trialGoesBy_7 (by decide) (fun hc1 => ?_) (fun hc1 => ?_)
      · replace he := i_t hc1 he
        refine lv_iconst (v := 1) hx hb dX3_trialGoesBy_45 (by decide) ?_
        exact retZe (cf := (cC G)) C hr hlk hd rfl he dX3_trialGoesBy_46
      · replace he := i_f hc1 he
        refine lv_aload_n hx hb dX3_trialGoesBy_10 rfl (lv_at hl 1 rfl) ?_
        refine rgetf C hd (lt_sh hk) (cC_sh hk) rfl tgX1 2 (by decide) uw190 rfl dX3_trialGoesBy_11 ?_
        refine lv_iload_n hx hb dX3_trialGoesBy_14 rfl (lv_at hl 3 rfl) ?_
        replace he := g_some he
        obtain ⟨hi2, he⟩ := he
        refine rlald C hd (lt_sn hk) (cC_sn hk) hi2 dX3_trialGoesBy_15 ?_
        refine lv_aload_n hx hb dX3_trialGoesBy_16 rfl (lv_at hl 0 rfl) ?_
        refine rgetf C hd (by decide) cC24 rfl tgX3 1 (by decide) uw200 rfl dX3_trialGoesBy_17 ?_
        refine rgetf C hd (lt_moor (by decide)) (cC_moor (by decide)) rfl tgX0 5 (by decide) uw112 rfl dX3_trialGoesBy_20 ?_
        refine lv_iload_n hx hb dX3_trialGoesBy_23 rfl (lv_at hl 2 rfl) ?_
        replace he := g_some he
        obtain ⟨hi3, he⟩ := he
        refine riald C hd (lt_marr (by decide) 2 (by decide)) (cC_marr (by decide) 2 (by decide) (by decide)) hi3 dX3_trialGoesBy_24 ?_
        refine lv_i2l hx hb dX3_trialGoesBy_25 rfl ?_
        refine W.lcmp hx hb dX3_trialGoesBy_26 ?_
        refine lv_if_eq (tgt := 32) hx hb dX3_trialGoesBy_27 (by decide) (fun hc4 => ?_) (fun hc4 => ?_)
        · replace he := i_t hc4 he
          refine lv_aload_n hx hb dX3_trialGoesBy_32 rfl (lv_at hl 0 rfl) ?_
          refine rgetf C hd (by decide) cC24 rfl tgX3 1 (by decide) uw200 rfl dX3_trialGoesBy_33 ?_
          replace he := b_some he
          obtain ⟨V5, h5, he⟩ := he
          refine kVV C hd hl.1 kw_X3_223 (lt_moor (by decide)) (cC_moor (by decide)) rfl (c_X0_passHour l G ks hJ (by decide) h5) ⟨Nat.le_of_ble_eq_true rfl, Nat.le_of_ble_eq_true rfl⟩ rfl (rest := []) rfl (Nat.le_of_ble_eq_true rfl) dX3_trialGoesBy_36 (fun H locs hd => ?_)
          refine lv_iinc (v := _ + 1) (lv' := [(3, .int _), (0, .ref _), (1, .ref _), (2, .int _)]) hx hb dX3_trialGoesBy_39 hl (k := 3) rfl rfl (by decide) rfl (fun ls hl => ?_)
          refine lv_goto (tgt := 2) hx hb dX3_trialGoesBy_42 (by decide) ?_
          exact ih2 _ _ _ _ _ _ (lv_sub hl [1, 2, 3, 0] rfl) hd he
        · replace he := i_f hc4 he
          refine lv_iconst (v := 0) hx hb dX3_trialGoesBy_30 (by decide) ?_
          exact retZe (cf := (cC G)) C hr hlk hd rfl he dX3_trialGoesBy_31
  unfold f_X3_trialGoesBy at he
  refine lv_iconst (v := 0) hx hb dX3_trialGoesBy_0 (by decide) ?_
  refine lv_istore_n (lv' := [(3, .int _), (0, .ref _), (1, .ref _), (2, .int _)]) hx hb dX3_trialGoesBy_1 rfl hl (by decide) rfl (fun ls hl => ?_)
  exact L2 200 _ _ _ _ _ _ (lv_sub hl [1, 2, 3, 0] rfl) hd he
set_option maxRecDepth 100000 in
set_option maxHeartbeats 4000000 in
theorem c_X3_read (l : Launch) (G : Gd) (ks : Ks) (hJ : Inj 37 G.2.2) {a1 : Int32} {a2 : Int32} {V V' : VV} {r : Int32} (he : f_X3_read a1 a2 V = some (r, V')) : MI l 37 G (XC G ks) yX3_read cX3_read 8 5 110 [.ref (G.2.2 24), .int a1, .int a2] (cC G V) (cC G V') r := by
  refine walk_of (own := RX3) (by decide) rfl hJ (xs_C G ks) (Nat.le_of_ble_eq_true rfl) ?_
  intro p e s m below meth c C hr hlk ls hl hd
  have hl : lv_has ls 8 [(0, .ref (G.2.2 24)), (1, .int a1), (2, .int a2)] := hl
  obtain ⟨⟨hx, hb, hml, hown, hts⟩, -⟩ := id C
  have L45 : ∀ (y4 : Nat) (hy4 : y4 < 4), ∀ (K : Int32 → Int32 → Int32 → VV → Option (Int32 × VV)), (∀ (x2 : Int32) (x5 : Int32) (x6 : Int32) (V : VV) (H : Heap) (locs : List Loc) (ls : Array Slot), lv_has ls 8 [(0, .ref (G.2.2 24)), (2, .int x2), (4, .ref (G.2.2 (29 + 2 * y4))), (5, .int x5), (6, .int x6)] → Dy 37 G (cC G V) s H locs → K x2 x5 x6 V = some (r, V') → W p l e (rmF 5 110) s m ([.ref (G.2.2 24), .int a1, .int a2] : List Value).toArray below meth c H locs 0 0 (MQ below (QI 37 G (cC G V') (fun r' => r' = r)) ([.ref (G.2.2 24), .int a1, .int a2] : List Value).toArray s 0 0 (inA 37 G.2.2)) (F0 m 35 ls [])) → ∀ (fuel : Nat), ∀ (x2 : Int32) (x5 : Int32) (x6 : Int32) (x7 : Int32) (V : VV) (H : Heap) (locs : List Loc) (ls : Array Slot), lv_has ls 8 [(0, .ref (G.2.2 24)), (2, .int x2), (4, .ref (G.2.2 (29 + 2 * y4))), (5, .int x5), (6, .int x6), (7, .int x7)] → Dy 37 G (cC G V) s H locs → f_X3_read_L45 y4 K fuel x2 x5 x6 x7 V = some (r, V') → W p l e (rmF 5 110) s m ([.ref (G.2.2 24), .int a1, .int a2] : List Value).toArray below meth c H locs 0 0 (MQ below (QI 37 G (cC G V') (fun r' => r' = r)) ([.ref (G.2.2 24), .int a1, .int a2] : List Value).toArray s 0 0 (inA 37 G.2.2)) (F0 m 45 ls []) := by
    intro y4 hy4 K hK
    intro fuel
    induction fuel with
    | zero => intro x2 x5 x6 x7 V H locs ls hl hd he; simp [f_X3_read_L45] at he
    | succ n ih45 =>
      intro x2 x5 x6 x7 V H locs ls hl hd he
      rw [f_X3_read_L45] at he
      refine lv_iload hx hb dX3_read_45 (lv_at hl 5 rfl) ?_
      refine lv_iconst (v := 4) hx hb dX3_read_47 (by decide) ?_
      refine lv_icmp_ge (tgt := 103) hx hb dX3_read_48 (by decide) (fun hc9 => ?_) (fun hc9 => ?_)
      · replace he := i_t hc9 he
        refine lv_iinc (v := _ + 1) (lv' := [(6, .int _), (0, .ref _), (2, .int _), (4, .ref _), (5, .int _), (7, .int _)]) hx hb dX3_read_103 hl (k := 4) rfl rfl (by decide) rfl (fun ls hl => ?_)
        refine lv_goto (tgt := 35) hx hb dX3_read_106 (by decide) ?_
        exact hK _ _ _ _ _ _ _ (lv_sub hl [1, 2, 3, 4, 0] rfl) hd he
      · replace he := i_f hc9 he
        refine lv_aload_n hx hb dX3_read_51 rfl (lv_at hl 0 rfl) ?_
        refine rgetf C hd (by decide) cC24 rfl tgX3 1 (by decide) uw200 rfl dX3_read_52 ?_
        refine lv_aload_n hx hb dX3_read_55 rfl (lv_at hl 0 rfl) ?_
        refine rgetf C hd (by decide) cC24 rfl tgX3 0 (by decide) uw199 rfl dX3_read_56 ?_
        replace he := b_some he
        obtain ⟨V10, h10, he⟩ := he
        refine kVV C hd hl.1 kw_X3_148 (lt_moor (by decide)) (cC_moor (by decide)) rfl (c_X0_takeFrom l G ks hJ (by decide) (by decide) h10) ⟨Nat.le_of_ble_eq_true rfl, Nat.le_of_ble_eq_true rfl⟩ rfl (rest := []) rfl (Nat.le_of_ble_eq_true rfl) dX3_read_59 (fun H locs hd => ?_)
        refine lv_aload_n hx hb dX3_read_62 rfl (lv_at hl 0 rfl) ?_
        refine rgetf C hd (by decide) cC24 rfl tgX3 1 (by decide) uw200 rfl dX3_read_63 ?_
        refine rgetf C hd (lt_moor (by decide)) (cC_moor (by decide)) rfl tgX0 4 (by decide) uw110 rfl dX3_read_66 ?_
        refine lv_iload_n hx hb dX3_read_69 rfl (lv_at hl 1 rfl) ?_
        refine lv_iload hx hb dX3_read_70 (lv_at hl 4 rfl) ?_
        replace he := g_some he
        obtain ⟨hi11, he⟩ := he
        replace he := bv_ex he
        obtain ⟨V12, e12, he⟩ := he
        refine riast (cell' := (cC G) V12) C hd (lt_marr (by decide) 1 (by decide)) (cC_marr (by decide) 1 (by decide) (by decide)) hi11 (cC_marr_w (by decide) 1 (by decide) (by decide) e12) (cC_ne e12) dX3_read_72 (fun H locs hd => ?_)
        refine lv_aload_n hx hb dX3_read_73 rfl (lv_at hl 0 rfl) ?_
        refine rgetf C hd (by decide) cC24 rfl tgX3 1 (by decide) uw200 rfl dX3_read_74 ?_
        refine rgetf C hd (lt_moor (by decide)) (cC_moor (by decide)) rfl tgX0 7 (by decide) uw117 rfl dX3_read_77 ?_
        refine lv_iload_n hx hb dX3_read_80 rfl (lv_at hl 1 rfl) ?_
        refine lv_iload hx hb dX3_read_81 (lv_at hl 5 rfl) ?_
        replace he := g_some he
        obtain ⟨hi13, he⟩ := he
        replace he := bv_ex he
        obtain ⟨V14, e14, he⟩ := he
        refine riast (cell' := (cC G) V14) C hd (lt_marr (by decide) 4 (by decide)) (cC_marr (by decide) 4 (by decide) (by decide)) hi13 (cC_marr_w (by decide) 4 (by decide) (by decide) e14) (cC_ne e14) dX3_read_83 (fun H locs hd => ?_)
        refine lv_aload_n hx hb dX3_read_84 rfl (lv_at hl 0 rfl) ?_
        refine lv_aload hx hb dX3_read_85 (lv_at hl 2 rfl) ?_
        refine lv_iload_n hx hb dX3_read_87 rfl (lv_at hl 1 rfl) ?_
        replace he := b_some he
        obtain ⟨⟨r15, V15⟩, h15, he⟩ := he
        refine kVZ C hd hl.1 kw_X3_226 (by decide) cC24 rfl (c_X3_trialGoesBy l G ks hJ hy4 h15) ⟨Nat.le_of_ble_eq_true rfl, Nat.le_of_ble_eq_true rfl⟩ rfl (rest := []) rfl (Nat.le_of_ble_eq_true rfl) dX3_read_88 (fun H locs hz15 hd => ?_)
        refine lv_if_eq (tgt := 97) hx hb dX3_read_91 (by decide) (fun hc16 => ?_) (fun hc16 => ?_)
        · replace he := i_t hc16 he
          refine lv_iinc (v := _ + 1) (lv' := [(7, .int _), (0, .ref _), (2, .int _), (4, .ref _), (5, .int _), (6, .int _)]) hx hb dX3_read_97 hl (k := 5) rfl rfl (by decide) rfl (fun ls hl => ?_)
          refine lv_goto (tgt := 45) hx hb dX3_read_100 (by decide) ?_
          exact ih45 _ _ _ _ _ _ _ _ (lv_sub hl [1, 2, 3, 4, 5, 0] rfl) hd he
        · replace he := i_f hc16 he
          refine lv_iinc (v := _ + 1) (lv' := [(5, .int _), (0, .ref _), (2, .int _), (4, .ref _), (6, .int _), (7, .int _)]) hx hb dX3_read_94 hl (k := 3) rfl rfl (by decide) rfl (fun ls hl => ?_)
          refine lv_iinc (v := _ + 1) (lv' := [(7, .int _), (5, .int _), (0, .ref _), (2, .int _), (4, .ref _), (6, .int _)]) hx hb dX3_read_97 hl (k := 5) rfl rfl (by decide) rfl (fun ls hl => ?_)
          refine lv_goto (tgt := 45) hx hb dX3_read_100 (by decide) ?_
          exact ih45 _ _ _ _ _ _ _ _ (lv_sub hl [2, 3, 4, 1, 5, 0] rfl) hd he
  have L35 : ∀ (y4 : Nat) (hy4 : y4 < 4), ∀ (fuel : Nat), ∀ (x2 : Int32) (x5 : Int32) (x6 : Int32) (V : VV) (H : Heap) (locs : List Loc) (ls : Array Slot), lv_has ls 8 [(0, .ref (G.2.2 24)), (2, .int x2), (4, .ref (G.2.2 (29 + 2 * y4))), (5, .int x5), (6, .int x6)] → Dy 37 G (cC G V) s H locs → f_X3_read_L35 y4 fuel x2 x5 x6 V = some (r, V') → W p l e (rmF 5 110) s m ([.ref (G.2.2 24), .int a1, .int a2] : List Value).toArray below meth c H locs 0 0 (MQ below (QI 37 G (cC G V') (fun r' => r' = r)) ([.ref (G.2.2 24), .int a1, .int a2] : List Value).toArray s 0 0 (inA 37 G.2.2)) (F0 m 35 ls []) := by
    intro y4 hy4
    intro fuel
    induction fuel with
    | zero => intro x2 x5 x6 V H locs ls hl hd he; simp [f_X3_read_L35] at he
    | succ n ih35 =>
      intro x2 x5 x6 V H locs ls hl hd he
      rw [f_X3_read_L35] at he
      refine lv_iload hx hb dX3_read_35 (lv_at hl 4 rfl) ?_
      refine lv_bipush (v := 6) hx hb dX3_read_37 (by decide) ?_
      refine lv_icmp_ge (tgt := 109) hx hb dX3_read_39 (by decide) (fun hc8 => ?_) (fun hc8 => ?_)
      · replace he := i_t hc8 he
        refine lv_iload hx hb dX3_read_109 (lv_at hl 3 rfl) ?_
        exact retIe (cf := (cC G)) C hr hlk hd he dX3_read_111
      · replace he := i_f hc8 he
        refine lv_iconst (v := 0) hx hb dX3_read_42 (by decide) ?_
        refine lv_istore (lv' := [(7, .int _), (0, .ref _), (2, .int _), (4, .ref _), (5, .int _), (6, .int _)]) hx hb dX3_read_43 hl (by decide) rfl (fun ls hl => ?_)
        exact L45 _ hy4 (f_X3_read_L35 y4 n) ih35 200 _ _ _ _ _ _ _ _ (lv_sub hl [1, 2, 3, 4, 5, 0] rfl) hd he
  unfold f_X3_read at he
  refine lv_aload_n hx hb dX3_read_0 rfl (lv_at hl 0 rfl) ?_
  refine lv_iload_n hx hb dX3_read_1 rfl (lv_at hl 1 rfl) ?_
  refine lv_iload_n hx hb dX3_read_2 rfl (lv_at hl 2 rfl) ?_
  replace he := b_some he
  obtain ⟨⟨r1, V1⟩, h1, he⟩ := he
  refine kVI C hd hl.1 kw_X3_220 (by decide) cC24 rfl (c_X3_sheetAndWalkerFinding l G ks hJ h1) ⟨Nat.le_of_ble_eq_true rfl, Nat.le_of_ble_eq_true rfl⟩ rfl (rest := []) rfl (Nat.le_of_ble_eq_true rfl) dX3_read_3 (fun H locs hd => ?_)
  refine lv_istore_n (lv' := [(3, .int _), (0, .ref _), (1, .int _), (2, .int _)]) hx hb dX3_read_6 rfl hl (by decide) rfl (fun ls hl => ?_)
  refine lv_aload_n hx hb dX3_read_7 rfl (lv_at hl 1 rfl) ?_
  refine lv_iload_n hx hb dX3_read_8 rfl (lv_at hl 2 rfl) ?_
  replace he := b_some he
  obtain ⟨⟨r2, V2⟩, h2, he⟩ := he
  refine kVQ C hd hl.1 kw_X3_180 (by decide) cC24 rfl (c_X3_sheetOf l G ks hJ h2) ⟨Nat.le_of_ble_eq_true rfl, Nat.le_of_ble_eq_true rfl⟩ rfl (rest := []) rfl (Nat.le_of_ble_eq_true rfl) dX3_read_9 (fun hc2 H locs hd => ?_) (fun hc2 hk2 H locs hd => ?_)
  · replace he := i_t hc2 he
    refine lv_astoreN (lv' := [(4, .null), (3, .int _), (0, .ref _), (1, .int _), (2, .int _)]) hx hb dX3_read_12 hl (by decide) rfl (fun ls hl => ?_)
    refine lv_iload_n hx hb dX3_read_14 rfl (lv_at hl 1 rfl) ?_
    refine lv_if_ne (tgt := 23) hx hb dX3_read_15 (by decide) (fun hc3 => ?_) (fun hc3 => ?_)
    · replace he := i_f hc3 he
      refine lv_aload_n hx hb dX3_read_23 rfl (lv_at hl 2 rfl) ?_
      refine lv_iload_n hx hb dX3_read_24 rfl (lv_at hl 1 rfl) ?_
      replace he := b_some he
      obtain ⟨⟨r4, V4⟩, h4, he⟩ := he
      refine kVI C hd hl.1 kw_X3_46 (by decide) cC24 rfl (c_X3_finding l G ks hJ h4) ⟨Nat.le_of_ble_eq_true rfl, Nat.le_of_ble_eq_true rfl⟩ rfl (rest := []) rfl (Nat.le_of_ble_eq_true rfl) dX3_read_25 (fun H locs hd => ?_)
      exact retIe (cf := (cC G)) C hr hlk hd he dX3_read_28
    · replace he := i_t hc3 he
      refine lv_aloadN hx hb dX3_read_18 (lv_at hl 0 rfl) ?_
      refine lv_ifnonnullN hx hb dX3_read_20 ?_
      refine lv_aload_n hx hb dX3_read_23 rfl (lv_at hl 2 rfl) ?_
      refine lv_iload_n hx hb dX3_read_24 rfl (lv_at hl 1 rfl) ?_
      replace he := b_some he
      obtain ⟨⟨r5, V5⟩, h5, he⟩ := he
      refine kVI C hd hl.1 kw_X3_46 (by decide) cC24 rfl (c_X3_finding l G ks hJ h5) ⟨Nat.le_of_ble_eq_true rfl, Nat.le_of_ble_eq_true rfl⟩ rfl (rest := []) rfl (Nat.le_of_ble_eq_true rfl) dX3_read_25 (fun H locs hd => ?_)
      exact retIe (cf := (cC G)) C hr hlk hd he dX3_read_28
  · replace he := i_f hc2 he
    refine lv_astore (lv' := [(4, .ref _), (3, .int _), (0, .ref _), (1, .int _), (2, .int _)]) hx hb dX3_read_12 hl (by decide) rfl (fun ls hl => ?_)
    refine lv_iload_n hx hb dX3_read_14 rfl (lv_at hl 1 rfl) ?_
    refine lv_if_ne (tgt := 23) hx hb dX3_read_15 (by decide) (fun hc6 => ?_) (fun hc6 => ?_)
    · replace he := i_f hc6 he
      refine lv_aload_n hx hb dX3_read_23 rfl (lv_at hl 2 rfl) ?_
      refine lv_iload_n hx hb dX3_read_24 rfl (lv_at hl 1 rfl) ?_
      replace he := b_some he
      obtain ⟨⟨r7, V7⟩, h7, he⟩ := he
      refine kVI C hd hl.1 kw_X3_46 (by decide) cC24 rfl (c_X3_finding l G ks hJ h7) ⟨Nat.le_of_ble_eq_true rfl, Nat.le_of_ble_eq_true rfl⟩ rfl (rest := []) rfl (Nat.le_of_ble_eq_true rfl) dX3_read_25 (fun H locs hd => ?_)
      exact retIe (cf := (cC G)) C hr hlk hd he dX3_read_28
    · replace he := i_t hc6 he
      refine lv_aload hx hb dX3_read_18 (lv_at hl 0 rfl) ?_
      refine lv_ifnonnull (tgt := 29) hx hb dX3_read_20 (by decide) ?_
      refine lv_iconst (v := 0) hx hb dX3_read_29 (by decide) ?_
      refine lv_istore (lv' := [(5, .int _), (4, .ref _), (3, .int _), (0, .ref _), (1, .int _), (2, .int _)]) hx hb dX3_read_30 hl (by decide) rfl (fun ls hl => ?_)
      refine lv_iconst (v := 0) hx hb dX3_read_32 (by decide) ?_
      refine lv_istore (lv' := [(6, .int _), (5, .int _), (4, .ref _), (3, .int _), (0, .ref _), (1, .int _), (2, .int _)]) hx hb dX3_read_33 hl (by decide) rfl (fun ls hl => ?_)
      exact L35 _ hk2 200 _ _ _ _ _ _ _ (lv_sub hl [4, 6, 2, 1, 0] rfl) hd he
set_option maxRecDepth 100000 in
set_option maxHeartbeats 4000000 in
theorem c_X3_image (l : Launch) (G : Gd) (ks : Ks) (hJ : Inj 37 G.2.2) {V V' : VV} {r : Int32} (he : f_X3_image V = some (r, V')) : MI l 37 G (XC G ks) yX3_image cX3_image 1 2 51 [.ref (G.2.2 24)] (cC G V) (cC G V') r := by
  refine walk_of (own := RX3) (by decide) rfl hJ (xs_C G ks) (Nat.le_of_ble_eq_true rfl) ?_
  intro p e s m below meth c C hr hlk ls hl hd
  have hl : lv_has ls 1 [(0, .ref (G.2.2 24))] := hl
  obtain ⟨⟨hx, hb, hml, hown, hts⟩, -⟩ := id C
  unfold f_X3_image at he
  refine lv_aload_n hx hb dX3_image_0 rfl (lv_at hl 0 rfl) ?_
  refine rgetf C hd (by decide) cC24 rfl tgX3 2 (by decide) uw201 rfl dX3_image_1 ?_
  refine lv_aload_n hx hb dX3_image_4 rfl (lv_at hl 0 rfl) ?_
  refine rgetf C hd (by decide) cC24 rfl tgX3 0 (by decide) uw199 rfl dX3_image_5 ?_
  replace he := b_some he
  obtain ⟨V1, h1, he⟩ := he
  refine kVV C hd hl.1 kw_X3_148 (lt_moor (by decide)) (cC_moor (by decide)) rfl (c_X0_takeFrom l G ks hJ (by decide) (by decide) h1) ⟨Nat.le_of_ble_eq_true rfl, Nat.le_of_ble_eq_true rfl⟩ rfl (rest := []) rfl (Nat.le_of_ble_eq_true rfl) dX3_image_8 (fun H locs hd => ?_)
  refine lv_aload_n hx hb dX3_image_11 rfl (lv_at hl 0 rfl) ?_
  refine lv_iconst (v := 1) hx hb dX3_image_12 (by decide) ?_
  replace he := bv_ex he
  obtain ⟨V2, e2, he⟩ := he
  refine rputf (cell' := (cC G) V2) C hd (by decide) cC24 rfl tgX3 tyX3 tyX3_ok nmX3 3 (by decide) uw202 rfl (tyX3_ok 3 (by decide)) rfl rfl (Nat.le_of_ble_eq_true rfl) (cC24_w e2) (cC_ne e2) dX3_image_13 (fun H locs hd => ?_)
  refine lv_iconst (v := 1) hx hb dX3_image_16 (by decide) ?_
  exact retIe (cf := (cC G)) C hr hlk hd he dX3_image_17
set_option maxRecDepth 100000 in
set_option maxHeartbeats 4000000 in
theorem c_X3_undo (l : Launch) (G : Gd) (ks : Ks) (hJ : Inj 37 G.2.2) {V V' : VV} {r : Int32} (he : f_X3_undo V = some (r, V')) : MI l 37 G (XC G ks) yX3_undo cX3_undo 1 2 51 [.ref (G.2.2 24)] (cC G V) (cC G V') r := by
  refine walk_of (own := RX3) (by decide) rfl hJ (xs_C G ks) (Nat.le_of_ble_eq_true rfl) ?_
  intro p e s m below meth c C hr hlk ls hl hd
  have hl : lv_has ls 1 [(0, .ref (G.2.2 24))] := hl
  obtain ⟨⟨hx, hb, hml, hown, hts⟩, -⟩ := id C
  unfold f_X3_undo at he
  refine lv_aload_n hx hb dX3_undo_0 rfl (lv_at hl 0 rfl) ?_
  refine rgetf C hd (by decide) cC24 rfl tgX3 3 (by decide) uw202 rfl dX3_undo_1 ?_
  refine lv_if_ne (tgt := 14) hx hb dX3_undo_4 (by decide) (fun hc1 => ?_) (fun hc1 => ?_)
  · replace he := i_f hc1 he
    refine lv_aload_n hx hb dX3_undo_14 rfl (lv_at hl 0 rfl) ?_
    refine rgetf C hd (by decide) cC24 rfl tgX3 0 (by decide) uw199 rfl dX3_undo_15 ?_
    refine lv_aload_n hx hb dX3_undo_18 rfl (lv_at hl 0 rfl) ?_
    refine rgetf C hd (by decide) cC24 rfl tgX3 2 (by decide) uw201 rfl dX3_undo_19 ?_
    replace he := b_some he
    obtain ⟨V2, h2, he⟩ := he
    refine kVV C hd hl.1 kw_X3_148 (lt_moor (by decide)) (cC_moor (by decide)) rfl (c_X0_takeFrom l G ks hJ (by decide) (by decide) h2) ⟨Nat.le_of_ble_eq_true rfl, Nat.le_of_ble_eq_true rfl⟩ rfl (rest := []) rfl (Nat.le_of_ble_eq_true rfl) dX3_undo_22 (fun H locs hd => ?_)
    refine lv_aload_n hx hb dX3_undo_25 rfl (lv_at hl 0 rfl) ?_
    refine rgetf C hd (by decide) cC24 rfl tgX3 0 (by decide) uw199 rfl dX3_undo_26 ?_
    refine rgetf C hd (lt_moor (by decide)) (cC_moor (by decide)) rfl tgX0 3 (by decide) uw108 rfl dX3_undo_29 ?_
    exact retIe (cf := (cC G)) C hr hlk hd he dX3_undo_32
  · replace he := i_t hc1 he
    refine lv_aload_n hx hb dX3_undo_7 rfl (lv_at hl 0 rfl) ?_
    refine lv_ldc hx hb hown (hts _ uw436) dX3_undo_8 ?_
    replace he := b_some he
    obtain ⟨⟨r3, V3⟩, h3, he⟩ := he
    refine kVI C hd hl.1 kw_X3_46 (by decide) cC24 rfl (c_X3_finding l G ks hJ h3) ⟨Nat.le_of_ble_eq_true rfl, Nat.le_of_ble_eq_true rfl⟩ rfl (rest := []) rfl (Nat.le_of_ble_eq_true rfl) dX3_undo_10 (fun H locs hd => ?_)
    exact retIe (cf := (cC G)) C hr hlk hd he dX3_undo_13
set_option maxRecDepth 100000 in
set_option maxHeartbeats 4000000 in
theorem c_X3_tear (l : Launch) (G : Gd) (ks : Ks) (hJ : Inj 37 G.2.2) {V V' : VV} {r : Int32} (he : f_X3_tear V = some (r, V')) : MI l 37 G (XC G ks) yX3_tear cX3_tear 2 0 0 [.ref (G.2.2 24)] (cC G V) (cC G V') r := by
  refine walk_of (own := RX3) (by decide) rfl hJ (xs_C G ks) (Nat.le_of_ble_eq_true rfl) ?_
  intro p e s m below meth c C hr hlk ls hl hd
  have hl : lv_has ls 2 [(0, .ref (G.2.2 24))] := hl
  obtain ⟨⟨hx, hb, hml, hown, hts⟩, -⟩ := id C
  unfold f_X3_tear at he
  refine lv_aload_n hx hb dX3_tear_0 rfl (lv_at hl 0 rfl) ?_
  refine rgetf C hd (by decide) cC24 rfl tgX3 3 (by decide) uw202 rfl dX3_tear_1 ?_
  refine lv_if_eq (tgt := 11) hx hb dX3_tear_4 (by decide) (fun hc1 => ?_) (fun hc1 => ?_)
  · replace he := i_t hc1 he
    refine lv_iconst (v := 0) hx hb dX3_tear_11 (by decide) ?_
    refine lv_istore_n (lv' := [(1, .int _), (0, .ref _)]) hx hb dX3_tear_12 rfl hl (by decide) rfl (fun ls hl => ?_)
    refine lv_aload_n hx hb dX3_tear_13 rfl (lv_at hl 1 rfl) ?_
    refine lv_iconst (v := 0) hx hb dX3_tear_14 (by decide) ?_
    replace he := bv_ex he
    obtain ⟨V2, e2, he⟩ := he
    refine rputf (cell' := (cC G) V2) C hd (by decide) cC24 rfl tgX3 tyX3 tyX3_ok nmX3 3 (by decide) uw202 rfl (tyX3_ok 3 (by decide)) rfl rfl (Nat.le_of_ble_eq_true rfl) (cC24_w e2) (cC_ne e2) dX3_tear_15 (fun H locs hd => ?_)
    refine lv_iload_n hx hb dX3_tear_18 rfl (lv_at hl 0 rfl) ?_
    exact retIe (cf := (cC G)) C hr hlk hd he dX3_tear_19
  · replace he := i_f hc1 he
    refine lv_iconst (v := 1) hx hb dX3_tear_7 (by decide) ?_
    refine lv_goto (tgt := 12) hx hb dX3_tear_8 (by decide) ?_
    refine lv_istore_n (lv' := [(1, .int _), (0, .ref _)]) hx hb dX3_tear_12 rfl hl (by decide) rfl (fun ls hl => ?_)
    refine lv_aload_n hx hb dX3_tear_13 rfl (lv_at hl 1 rfl) ?_
    refine lv_iconst (v := 0) hx hb dX3_tear_14 (by decide) ?_
    replace he := bv_ex he
    obtain ⟨V3, e3, he⟩ := he
    refine rputf (cell' := (cC G) V3) C hd (by decide) cC24 rfl tgX3 tyX3 tyX3_ok nmX3 3 (by decide) uw202 rfl (tyX3_ok 3 (by decide)) rfl rfl (Nat.le_of_ble_eq_true rfl) (cC24_w e3) (cC_ne e3) dX3_tear_15 (fun H locs hd => ?_)
    refine lv_iload_n hx hb dX3_tear_18 rfl (lv_at hl 0 rfl) ?_
    exact retIe (cf := (cC G)) C hr hlk hd he dX3_tear_19
set_option maxRecDepth 100000 in
set_option maxHeartbeats 4000000 in
theorem c_X3_count (l : Launch) (G : Gd) (ks : Ks) (hJ : Inj 37 G.2.2) {a1 : Int32} {V V' : VV} {r : Int32} (he : f_X3_count a1 V = some (r, V')) : MI l 37 G (XC G ks) yX3_count cX3_count 2 2 43 [.ref (G.2.2 24), .int a1] (cC G V) (cC G V') r := by
  refine walk_of (own := RX3) (by decide) rfl hJ (xs_C G ks) (Nat.le_of_ble_eq_true rfl) ?_
  intro p e s m below meth c C hr hlk ls hl hd
  have hl : lv_has ls 2 [(0, .ref (G.2.2 24)), (1, .int a1)] := hl
  obtain ⟨⟨hx, hb, hml, hown, hts⟩, -⟩ := id C
  unfold f_X3_count at he
  refine lv_iload_n hx hb dX3_count_0 rfl (lv_at hl 1 rfl) ?_
  replace he := ite_cases he
  rcases he with ⟨hc1, he⟩ | ⟨hc1, he⟩
  · refine rtabIn (k := 0) (off := 31) (tgt := 32) hx hb dX3_count_1 hc1 (by decide) (by decide) rfl (by decide) ?_
    refine lv_aload_n hx hb dX3_count_32 rfl (lv_at hl 0 rfl) ?_
    refine rgetf C hd (by decide) cC24 rfl tgX3 0 (by decide) uw199 rfl dX3_count_33 ?_
    refine rgetf C hd (lt_moor (by decide)) (cC_moor (by decide)) rfl tgX0 3 (by decide) uw108 rfl dX3_count_36 ?_
    exact retIe (cf := (cC G)) C hr hlk hd he dX3_count_39
  · replace he := ite_cases he
    rcases he with ⟨hc2, he⟩ | ⟨hc2, he⟩
    · refine rtabIn (k := 1) (off := 39) (tgt := 40) hx hb dX3_count_1 hc2 (by decide) (by decide) rfl (by decide) ?_
      refine lv_aload_n hx hb dX3_count_40 rfl (lv_at hl 0 rfl) ?_
      refine rgetf C hd (by decide) cC24 rfl tgX3 4 (by decide) uw203 rfl dX3_count_41 ?_
      refine rgetf C hd (by decide) cC25 rfl tgX2 0 (by decide) uw156 rfl dX3_count_44 ?_
      exact retIe (cf := (cC G)) C hr hlk hd he dX3_count_47
    · replace he := ite_cases he
      rcases he with ⟨hc3, he⟩ | ⟨hc3, he⟩
      · refine rtabIn (k := 2) (off := 47) (tgt := 48) hx hb dX3_count_1 hc3 (by decide) (by decide) rfl (by decide) ?_
        refine lv_aload_n hx hb dX3_count_48 rfl (lv_at hl 0 rfl) ?_
        refine rgetf C hd (by decide) cC24 rfl tgX3 0 (by decide) uw199 rfl dX3_count_49 ?_
        replace he := b_some he
        obtain ⟨⟨r4, V4⟩, h4, he⟩ := he
        refine kVI C hd hl.1 kw_X3_126 (lt_moor (by decide)) (cC_moor (by decide)) rfl (c_X0_keptSet l G ks hJ (by decide) h4) ⟨Nat.le_of_ble_eq_true rfl, Nat.le_of_ble_eq_true rfl⟩ rfl (rest := []) rfl (Nat.le_of_ble_eq_true rfl) dX3_count_52 (fun H locs hd => ?_)
        replace he := b_some he
        obtain ⟨⟨r5, V5⟩, h5, he⟩ := he
        refine kSI C hd hl.1 kw_X3_130 (c_J6_bitCount_0f7a4 l G ks hJ h5) ⟨Nat.le_of_ble_eq_true rfl, Nat.le_of_ble_eq_true rfl⟩ rfl (rest := []) rfl (Nat.le_of_ble_eq_true rfl) dX3_count_55 (fun H locs hd => ?_)
        exact retIe (cf := (cC G)) C hr hlk hd he dX3_count_58
      · replace he := ite_cases he
        rcases he with ⟨hc6, he⟩ | ⟨hc6, he⟩
        · refine rtabIn (k := 3) (off := 58) (tgt := 59) hx hb dX3_count_1 hc6 (by decide) (by decide) rfl (by decide) ?_
          refine lv_aload_n hx hb dX3_count_59 rfl (lv_at hl 0 rfl) ?_
          refine rgetf C hd (by decide) cC24 rfl tgX3 0 (by decide) uw199 rfl dX3_count_60 ?_
          refine rgetf C hd (lt_moor (by decide)) (cC_moor (by decide)) rfl tgX0 1 (by decide) uw102 rfl dX3_count_63 ?_
          replace he := b_some he
          obtain ⟨⟨r7, V7⟩, h7, he⟩ := he
          refine kSI C hd hl.1 kw_X3_130 (c_J6_bitCount_0f7a4 l G ks hJ h7) ⟨Nat.le_of_ble_eq_true rfl, Nat.le_of_ble_eq_true rfl⟩ rfl (rest := []) rfl (Nat.le_of_ble_eq_true rfl) dX3_count_66 (fun H locs hd => ?_)
          exact retIe (cf := (cC G)) C hr hlk hd he dX3_count_69
        · refine lv_tableOut (tgt := 70) hx hb dX3_count_1 (tbl_out (fun k k1 k2 => by rcases (show k = 0 ∨ k = 1 ∨ k = 2 ∨ k = 3 by omega) with rfl | rfl | rfl | rfl <;> first | exact hc1 | exact hc2 | exact hc3 | exact hc6)) (by decide) ?_
          refine lv_aload_n hx hb dX3_count_70 rfl (lv_at hl 0 rfl) ?_
          refine lv_ldc hx hb hown (hts _ uw226) dX3_count_71 ?_
          replace he := b_some he
          obtain ⟨⟨r8, V8⟩, h8, he⟩ := he
          refine kVI C hd hl.1 kw_X3_46 (by decide) cC24 rfl (c_X3_finding l G ks hJ h8) ⟨Nat.le_of_ble_eq_true rfl, Nat.le_of_ble_eq_true rfl⟩ rfl (rest := []) rfl (Nat.le_of_ble_eq_true rfl) dX3_count_73 (fun H locs hd => ?_)
          exact retIe (cf := (cC G)) C hr hlk hd he dX3_count_76
set_option maxRecDepth 100000 in
set_option maxHeartbeats 4000000 in
theorem c_X3_status (l : Launch) (G : Gd) (ks : Ks) (hJ : Inj 37 G.2.2) {a1 : Int32} {V V' : VV} {r : Int32} (he : f_X3_status a1 V = some (r, V')) : MI l 37 G (XC G ks) yX3_status cX3_status 4 1 22 [.ref (G.2.2 24), .int a1] (cC G V) (cC G V') r := by
  refine walk_of (own := RX3) (by decide) rfl hJ (xs_C G ks) (Nat.le_of_ble_eq_true rfl) ?_
  intro p e s m below meth c C hr hlk ls hl hd
  have hl : lv_has ls 4 [(0, .ref (G.2.2 24)), (1, .int a1)] := hl
  obtain ⟨⟨hx, hb, hml, hown, hts⟩, -⟩ := id C
  have L33 : ∀ (fuel : Nat), ∀ (x2 : Int32) (x3 : Int32) (V : VV) (H : Heap) (locs : List Loc) (ls : Array Slot), lv_has ls 4 [(0, .ref (G.2.2 24)), (2, .int x2), (3, .int x3)] → Dy 37 G (cC G V) s H locs → f_X3_status_L33 fuel x2 x3 V = some (r, V') → W p l e (rmF 1 22) s m ([.ref (G.2.2 24), .int a1] : List Value).toArray below meth c H locs 0 0 (MQ below (QI 37 G (cC G V') (fun r' => r' = r)) ([.ref (G.2.2 24), .int a1] : List Value).toArray s 0 0 (inA 37 G.2.2)) (F0 m 33 ls []) := by
    intro fuel
    induction fuel with
    | zero => intro x2 x3 V H locs ls hl hd he; simp [f_X3_status_L33] at he
    | succ n ih33 =>
      intro x2 x3 V H locs ls hl hd he
      rw [f_X3_status_L33] at he
      refine lv_iload_n hx hb dX3_status_33 rfl (lv_at hl 2 rfl) ?_
      refine lv_bipush (v := 7) hx hb dX3_status_34 (by decide) ?_
      refine lv_icmp_ge (tgt := 54) hx hb dX3_status_36 (by decide) (fun hc5 => ?_) (fun hc5 => ?_)
      · replace he := i_t hc5 he
        refine lv_iload_n hx hb dX3_status_54 rfl (lv_at hl 1 rfl) ?_
        exact retIe (cf := (cC G)) C hr hlk hd he dX3_status_55
      · replace he := i_f hc5 he
        refine lv_iload_n hx hb dX3_status_39 rfl (lv_at hl 1 rfl) ?_
        refine lv_aload_n hx hb dX3_status_40 rfl (lv_at hl 0 rfl) ?_
        refine rgetf C hd (by decide) cC24 rfl tgX3 6 (by decide) uw205 rfl dX3_status_41 ?_
        refine lv_iload_n hx hb dX3_status_44 rfl (lv_at hl 2 rfl) ?_
        replace he := g_some he
        obtain ⟨hi6, he⟩ := he
        refine riald C hd (by decide) cC28 hi6 dX3_status_45 ?_
        refine lv_iadd hx hb dX3_status_46 ?_
        refine lv_istore_n (lv' := [(2, .int _), (0, .ref _), (3, .int _)]) hx hb dX3_status_47 rfl hl (by decide) rfl (fun ls hl => ?_)
        refine lv_iinc (v := _ + 1) (lv' := [(3, .int _), (2, .int _), (0, .ref _)]) hx hb dX3_status_48 hl (k := 2) rfl rfl (by decide) rfl (fun ls hl => ?_)
        refine lv_goto (tgt := 33) hx hb dX3_status_51 (by decide) ?_
        exact ih33 _ _ _ _ _ _ (lv_sub hl [2, 1, 0] rfl) hd he
  unfold f_X3_status at he
  refine lv_iload_n hx hb dX3_status_0 rfl (lv_at hl 1 rfl) ?_
  refine lv_iconst (v := (-1)) hx hb dX3_status_1 (by decide) ?_
  refine lv_icmp_lt (tgt := 11) hx hb dX3_status_2 (by decide) (fun hc1 => ?_) (fun hc1 => ?_)
  · replace he := i_t hc1 he
    refine lv_aload_n hx hb dX3_status_11 rfl (lv_at hl 0 rfl) ?_
    refine lv_ldc hx hb hown (hts _ uw226) dX3_status_12 ?_
    replace he := b_some he
    obtain ⟨⟨r2, V2⟩, h2, he⟩ := he
    refine kVI C hd hl.1 kw_X3_46 (by decide) cC24 rfl (c_X3_finding l G ks hJ h2) ⟨Nat.le_of_ble_eq_true rfl, Nat.le_of_ble_eq_true rfl⟩ rfl (rest := []) rfl (Nat.le_of_ble_eq_true rfl) dX3_status_14 (fun H locs hd => ?_)
    exact retIe (cf := (cC G)) C hr hlk hd he dX3_status_17
  · replace he := i_f hc1 he
    refine lv_iload_n hx hb dX3_status_5 rfl (lv_at hl 1 rfl) ?_
    refine lv_bipush (v := 7) hx hb dX3_status_6 (by decide) ?_
    refine lv_icmp_lt (tgt := 18) hx hb dX3_status_8 (by decide) (fun hc3 => ?_) (fun hc3 => ?_)
    · replace he := i_t hc3 he
      refine lv_iload_n hx hb dX3_status_18 rfl (lv_at hl 1 rfl) ?_
      refine lv_if_lt (tgt := 29) hx hb dX3_status_19 (by decide) (fun hc4 => ?_) (fun hc4 => ?_)
      · replace he := i_t hc4 he
        refine lv_iconst (v := 0) hx hb dX3_status_29 (by decide) ?_
        refine lv_istore_n (lv' := [(2, .int _), (0, .ref _), (1, .int _)]) hx hb dX3_status_30 rfl hl (by decide) rfl (fun ls hl => ?_)
        refine lv_iconst (v := 0) hx hb dX3_status_31 (by decide) ?_
        refine lv_istore_n (lv' := [(3, .int _), (2, .int _), (0, .ref _), (1, .int _)]) hx hb dX3_status_32 rfl hl (by decide) rfl (fun ls hl => ?_)
        exact L33 200 _ _ _ _ _ _ (lv_sub hl [2, 1, 0] rfl) hd he
      · replace he := i_f hc4 he
        refine lv_aload_n hx hb dX3_status_22 rfl (lv_at hl 0 rfl) ?_
        refine rgetf C hd (by decide) cC24 rfl tgX3 6 (by decide) uw205 rfl dX3_status_23 ?_
        refine lv_iload_n hx hb dX3_status_26 rfl (lv_at hl 1 rfl) ?_
        replace he := g_some he
        obtain ⟨hi7, he⟩ := he
        refine riald C hd (by decide) cC28 hi7 dX3_status_27 ?_
        exact retIe (cf := (cC G)) C hr hlk hd he dX3_status_28
    · replace he := i_f hc3 he
      refine lv_aload_n hx hb dX3_status_11 rfl (lv_at hl 0 rfl) ?_
      refine lv_ldc hx hb hown (hts _ uw226) dX3_status_12 ?_
      replace he := b_some he
      obtain ⟨⟨r8, V8⟩, h8, he⟩ := he
      refine kVI C hd hl.1 kw_X3_46 (by decide) cC24 rfl (c_X3_finding l G ks hJ h8) ⟨Nat.le_of_ble_eq_true rfl, Nat.le_of_ble_eq_true rfl⟩ rfl (rest := []) rfl (Nat.le_of_ble_eq_true rfl) dX3_status_14 (fun H locs hd => ?_)
      exact retIe (cf := (cC G)) C hr hlk hd he dX3_status_17
