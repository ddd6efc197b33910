set_option maxRecDepth 100000 in
set_option maxHeartbeats 4000000 in
theorem c_X4_word (l : Launch) (G : Gd) (hJ : Inj 11 G.2.2) {V V' : VV} {r : Int64} (he : f_X4_word V = some (r, V')) : MJ l 11 G XM yX4_word cX4_word 4 2 45 [.ref (G.2.2 0)] (cM G V) (cM G V') r := by
  refine walk_of (own := RX4) (by decide) rfl hJ (xs_M G) (Nat.le_of_ble_eq_true rfl) ?_
  intro p e s m below meth c C hr hlk ls hl hd
  have hl : lv_has ls 4 [(0, .ref (G.2.2 0))] := hl
  obtain ⟨⟨hx, hb, hml, hown, hts⟩, -⟩ := id C
  have L7 : ∀ (fuel : Nat) (x1 : Int64) (x3 : Int32) (V : VV) (H : Heap) (locs : List Loc) (ls : Array Slot), lv_has ls 4 [(0, .ref (G.2.2 0)), (1, .long x1), (3, .int x3)] → Dy 11 G (cM G V) s H locs → f_X4_word_L7 fuel x1 x3 V = some (r, V') → W p l e (rmF 2 45) s m ([.ref (G.2.2 0)] : List Value).toArray below meth c H locs 0 0 (MQ below (QL 11 G (cM G V') (fun r' => r' = r)) ([.ref (G.2.2 0)] : List Value).toArray s 0 0 (inA 11 G.2.2)) (F0 m 7 ls []) := by
    intro fuel
    induction fuel with
    | zero => intro x1 x3 V H locs ls hl hd he; simp [f_X4_word_L7] at he
    | succ n ih7 =>
      intro x1 x3 V H locs ls hl hd he
      rw [f_X4_word_L7] at he
      refine lv_iload_n hx hb dX4_word_7 rfl (lv_at hl 2 rfl) ?_
      refine lv_aload_n hx hb dX4_word_8 rfl (lv_at hl 0 rfl) ?_
      refine rgetf C hd (by decide) cM0 rfl tgX4 11 (by decide) tw712 rfl dX4_word_9 ?_
      refine lv_icmp_ge (tgt := 50) hx hb dX4_word_12 (by decide) (fun hc1 => ?_) (fun hc1 => ?_)
      · replace he := i_t hc1 he
        refine lv_aload_n hx hb dX4_word_50 rfl (lv_at hl 0 rfl) ?_
        refine rgetf C hd (by decide) cM0 rfl tgX4 13 (by decide) tw714 rfl dX4_word_51 ?_
        refine lv_if_ne (tgt := 71) hx hb dX4_word_54 (by decide) (fun hc2 => ?_) (fun hc2 => ?_)
        · replace he := i_f hc2 he
          refine lv_lconst (v := 0) hx hb dX4_word_71 (by decide) ?_
          refine lv_goto (tgt := 76) hx hb dX4_word_72 (by decide) ?_
          exact retJe (cf := (cM G)) C hr hlk hd he dX4_word_76
        · replace he := i_t hc2 he
          refine lv_aload_n hx hb dX4_word_57 rfl (lv_at hl 0 rfl) ?_
          refine lv_aload_n hx hb dX4_word_58 rfl (lv_at hl 0 rfl) ?_
          refine rgetf C hd (by decide) cM0 rfl tgX4 10 (by decide) tw711 rfl dX4_word_59 ?_
          replace he := b_some he
          obtain ⟨⟨r3, V3⟩, h3, he⟩ := he
          refine kVI C hd hl.1 kw_X4_220 (by decide) cM0 rfl (c_X4_byteAt l G hJ h3) ⟨Nat.le_of_ble_eq_true rfl, Nat.le_of_ble_eq_true rfl⟩ rfl (rest := []) rfl (Nat.le_of_ble_eq_true rfl) dX4_word_62 (fun H locs hd => ?_)
          replace he := b_some he
          obtain ⟨⟨r4, V4⟩, h4, he⟩ := he
          refine kSZ C hd hl.1 kw_X4_223 (c_X4_isLetter l G hJ h4) ⟨Nat.le_of_ble_eq_true rfl, Nat.le_of_ble_eq_true rfl⟩ rfl (rest := []) rfl (Nat.le_of_ble_eq_true rfl) dX4_word_65 (fun H locs hz4 hd => ?_)
          refine lv_if_ne (tgt := 75) hx hb dX4_word_68 (by decide) (fun hc5 => ?_) (fun hc5 => ?_)
          · replace he := i_f hc5 he
            refine lv_lload_n hx hb dX4_word_75 rfl (lv_at hl 1 rfl) ?_
            exact retJe (cf := (cM G)) C hr hlk hd he dX4_word_76
          · replace he := i_t hc5 he
            refine lv_lconst (v := 0) hx hb dX4_word_71 (by decide) ?_
            refine lv_goto (tgt := 76) hx hb dX4_word_72 (by decide) ?_
            exact retJe (cf := (cM G)) C hr hlk hd he dX4_word_76
      · replace he := i_f hc1 he
        refine lv_lload_n hx hb dX4_word_15 rfl (lv_at hl 1 rfl) ?_
        refine lv_ldc2 hx hb hown (hts _ tw1062) dX4_word_16 ?_
        refine W.lcmp hx hb dX4_word_19 ?_
        refine lv_if_le (tgt := 27) hx hb dX4_word_20 (by decide) (fun hc6 => ?_) (fun hc6 => ?_)
        · replace he := i_t hc6 he
          refine lv_ldc2 hx hb hown (hts _ tw1063) dX4_word_27 ?_
          refine lv_lload_n hx hb dX4_word_30 rfl (lv_at hl 1 rfl) ?_
          refine lv_lmul hx hb dX4_word_31 ?_
          refine lv_aload_n hx hb dX4_word_32 rfl (lv_at hl 0 rfl) ?_
          refine rgetf C hd (by decide) cM0 rfl tgX4 8 (by decide) tw709 rfl dX4_word_33 ?_
          refine lv_iload_n hx hb dX4_word_36 rfl (lv_at hl 2 rfl) ?_
          replace he := g_some he
          obtain ⟨hi7, he⟩ := he
          refine riald C hd (by decide) cMa6 hi7 dX4_word_37 ?_
          refine lv_bipush (v := 96) hx hb dX4_word_38 (by decide) ?_
          refine lv_isub hx hb dX4_word_40 ?_
          refine lv_i2l hx hb dX4_word_41 rfl ?_
          refine lv_ladd hx hb dX4_word_42 ?_
          refine lv_lstore_n (lv' := [(1, .long _), (0, .ref _), (3, .int _)]) hx hb dX4_word_43 rfl hl (by decide) rfl (fun ls hl => ?_)
          refine lv_iinc (v := _ + 1) (lv' := [(3, .int _), (1, .long _), (0, .ref _)]) hx hb dX4_word_44 hl (k := 2) rfl rfl (by decide) rfl (fun ls hl => ?_)
          refine lv_goto (tgt := 7) hx hb dX4_word_47 (by decide) ?_
          exact ih7 _ _ _ _ _ _ (lv_sub hl [2, 1, 0] rfl) hd he
        · replace he := i_f hc6 he
          refine lv_lload_n hx hb dX4_word_23 rfl (lv_at hl 1 rfl) ?_
          refine lv_goto (tgt := 43) hx hb dX4_word_24 (by decide) ?_
          refine lv_lstore_n (lv' := [(1, .long _), (0, .ref _), (3, .int _)]) hx hb dX4_word_43 rfl hl (by decide) rfl (fun ls hl => ?_)
          refine lv_iinc (v := _ + 1) (lv' := [(3, .int _), (1, .long _), (0, .ref _)]) hx hb dX4_word_44 hl (k := 2) rfl rfl (by decide) rfl (fun ls hl => ?_)
          refine lv_goto (tgt := 7) hx hb dX4_word_47 (by decide) ?_
          exact ih7 _ _ _ _ _ _ (lv_sub hl [2, 1, 0] rfl) hd he
  unfold f_X4_word at he
  refine lv_lconst (v := 0) hx hb dX4_word_0 (by decide) ?_
  refine lv_lstore_n (lv' := [(1, .long _), (0, .ref _)]) hx hb dX4_word_1 rfl hl (by decide) rfl (fun ls hl => ?_)
  refine lv_aload_n hx hb dX4_word_2 rfl (lv_at hl 1 rfl) ?_
  refine rgetf C hd (by decide) cM0 rfl tgX4 10 (by decide) tw711 rfl dX4_word_3 ?_
  refine lv_istore_n (lv' := [(3, .int _), (1, .long _), (0, .ref _)]) hx hb dX4_word_6 rfl hl (by decide) rfl (fun ls hl => ?_)
  exact L7 200 _ _ _ _ _ _ (lv_sub hl [2, 1, 0] rfl) hd he
set_option maxRecDepth 100000 in
set_option maxHeartbeats 4000000 in
theorem c_X4_number (l : Launch) (G : Gd) (hJ : Inj 11 G.2.2) {a1 : Int32} {a2 : Int32} {V V' : VV} (he : f_X4_number a1 a2 V = some V') : MV l 11 G XM yX4_number cX4_number 6 4 88 [.ref (G.2.2 0), .int a1, .int a2] (cM G V) (cM G V') := by
  refine walk_of (own := RX4) (by decide) rfl hJ (xs_M G) (Nat.le_of_ble_eq_true rfl) ?_
  intro p e s m below meth c C hr hlk ls hl hd
  have hl : lv_has ls 6 [(0, .ref (G.2.2 0)), (1, .int a1), (2, .int a2)] := hl
  obtain ⟨⟨hx, hb, hml, hown, hts⟩, -⟩ := id C
  have L29 : ∀ (fuel : Nat) (x1 : Int32) (x2 : Int32) (x3 : Int32) (x4 : Int32) (x5 : Int32) (V : VV) (H : Heap) (locs : List Loc) (ls : Array Slot), lv_has ls 6 [(0, .ref (G.2.2 0)), (1, .int x1), (2, .int x2), (3, .int x3), (4, .int x4), (5, .int x5)] → Dy 11 G (cM G V) s H locs → f_X4_number_L29 fuel x1 x2 x3 x4 x5 V = some V' → W p l e (rmF 4 88) s m ([.ref (G.2.2 0), .int a1, .int a2] : List Value).toArray below meth c H locs 0 0 (MQ below (QV 11 G (cM G V')) ([.ref (G.2.2 0), .int a1, .int a2] : List Value).toArray s 0 0 (inA 11 G.2.2)) (F0 m 29 ls []) := by
    intro fuel
    induction fuel with
    | zero => intro x1 x2 x3 x4 x5 V H locs ls hl hd he; simp [f_X4_number_L29] at he
    | succ n ih29 =>
      intro x1 x2 x3 x4 x5 V H locs ls hl hd he
      rw [f_X4_number_L29] at he
      refine lv_iload hx hb dX4_number_29 (lv_at hl 5 rfl) ?_
      refine lv_aload_n hx hb dX4_number_31 rfl (lv_at hl 0 rfl) ?_
      refine rgetf C hd (by decide) cM0 rfl tgX4 11 (by decide) tw712 rfl dX4_number_32 ?_
      refine lv_icmp_ge (tgt := 79) hx hb dX4_number_35 (by decide) (fun hc4 => ?_) (fun hc4 => ?_)
      · replace he := i_t hc4 he
        refine lv_aload_n hx hb dX4_number_79 rfl (lv_at hl 0 rfl) ?_
        refine lv_iload hx hb dX4_number_80 (lv_at hl 4 rfl) ?_
        replace he := bv_ex he
        obtain ⟨V5, e5, he⟩ := he
        refine rputf (cell' := (cM G) V5) C hd (by decide) cM0 rfl tgX4 tyX4 tyX4_ok nmX4 12 (by decide) tw713 rfl (tyX4_ok 12 (by decide)) rfl rfl (Nat.le_of_ble_eq_true rfl) (cM0_w (by decide) e5) (cM_ne e5) dX4_number_82 (fun H locs hd => ?_)
        refine lv_aload_n hx hb dX4_number_85 rfl (lv_at hl 0 rfl) ?_
        refine lv_iload_n hx hb dX4_number_86 rfl (lv_at hl 3 rfl) ?_
        refine lv_if_eq (tgt := 107) hx hb dX4_number_87 (by decide) (fun hc6 => ?_) (fun hc6 => ?_)
        · replace he := i_t hc6 he
          refine lv_iconst (v := 0) hx hb dX4_number_107 (by decide) ?_
          replace he := b_some he
          obtain ⟨V7, h7, he⟩ := he
          refine kVV C hd hl.1 kw_X4_243 (by decide) cM0 rfl (c_X4_must l G hJ h7) ⟨Nat.le_of_ble_eq_true rfl, Nat.le_of_ble_eq_true rfl⟩ rfl (rest := []) rfl (Nat.le_of_ble_eq_true rfl) dX4_number_108 (fun H locs hd => ?_)
          exact retVe (cf := (cM G)) C hr hlk hd he dX4_number_111
        · replace he := i_f hc6 he
          refine lv_iload hx hb dX4_number_90 (lv_at hl 4 rfl) ?_
          refine lv_i2l hx hb dX4_number_92 rfl ?_
          refine lv_iload_n hx hb dX4_number_93 rfl (lv_at hl 1 rfl) ?_
          refine lv_i2l hx hb dX4_number_94 rfl ?_
          refine lv_iload_n hx hb dX4_number_95 rfl (lv_at hl 2 rfl) ?_
          refine lv_i2l hx hb dX4_number_96 rfl ?_
          replace he := b_some he
          obtain ⟨⟨r8, V8⟩, h8, he⟩ := he
          refine kSZ C hd hl.1 kw_X4_44 (c_X4_in l G hJ h8) ⟨Nat.le_of_ble_eq_true rfl, Nat.le_of_ble_eq_true rfl⟩ rfl (rest := [.ref _]) rfl (Nat.le_of_ble_eq_true rfl) dX4_number_97 (fun H locs hz8 hd => ?_)
          refine lv_if_eq (tgt := 107) hx hb dX4_number_100 (by decide) (fun hc9 => ?_) (fun hc9 => ?_)
          · replace he := i_t hc9 he
            refine lv_iconst (v := 0) hx hb dX4_number_107 (by decide) ?_
            replace he := b_some he
            obtain ⟨V10, h10, he⟩ := he
            refine kVV C hd hl.1 kw_X4_243 (by decide) cM0 rfl (c_X4_must l G hJ h10) ⟨Nat.le_of_ble_eq_true rfl, Nat.le_of_ble_eq_true rfl⟩ rfl (rest := []) rfl (Nat.le_of_ble_eq_true rfl) dX4_number_108 (fun H locs hd => ?_)
            exact retVe (cf := (cM G)) C hr hlk hd he dX4_number_111
          · replace he := i_f hc9 he
            refine lv_iconst (v := 1) hx hb dX4_number_103 (by decide) ?_
            refine lv_goto (tgt := 108) hx hb dX4_number_104 (by decide) ?_
            replace he := b_some he
            obtain ⟨V11, h11, he⟩ := he
            refine kVV C hd hl.1 kw_X4_243 (by decide) cM0 rfl (c_X4_must l G hJ h11) ⟨Nat.le_of_ble_eq_true rfl, Nat.le_of_ble_eq_true rfl⟩ rfl (rest := []) rfl (Nat.le_of_ble_eq_true rfl) dX4_number_108 (fun H locs hd => ?_)
            exact retVe (cf := (cM G)) C hr hlk hd he dX4_number_111
      · replace he := i_f hc4 he
        refine lv_iload_n hx hb dX4_number_38 rfl (lv_at hl 3 rfl) ?_
        refine lv_if_eq (tgt := 79) hx hb dX4_number_39 (by decide) (fun hc12 => ?_) (fun hc12 => ?_)
        · replace he := i_t hc12 he
          refine lv_aload_n hx hb dX4_number_79 rfl (lv_at hl 0 rfl) ?_
          refine lv_iload hx hb dX4_number_80 (lv_at hl 4 rfl) ?_
          replace he := bv_ex he
          obtain ⟨V13, e13, he⟩ := he
          refine rputf (cell' := (cM G) V13) C hd (by decide) cM0 rfl tgX4 tyX4 tyX4_ok nmX4 12 (by decide) tw713 rfl (tyX4_ok 12 (by decide)) rfl rfl (Nat.le_of_ble_eq_true rfl) (cM0_w (by decide) e13) (cM_ne e13) dX4_number_82 (fun H locs hd => ?_)
          refine lv_aload_n hx hb dX4_number_85 rfl (lv_at hl 0 rfl) ?_
          refine lv_iload_n hx hb dX4_number_86 rfl (lv_at hl 3 rfl) ?_
          refine lv_if_eq (tgt := 107) hx hb dX4_number_87 (by decide) (fun hc14 => ?_) (fun hc14 => ?_)
          · replace he := i_t hc14 he
            refine lv_iconst (v := 0) hx hb dX4_number_107 (by decide) ?_
            replace he := b_some he
            obtain ⟨V15, h15, he⟩ := he
            refine kVV C hd hl.1 kw_X4_243 (by decide) cM0 rfl (c_X4_must l G hJ h15) ⟨Nat.le_of_ble_eq_true rfl, Nat.le_of_ble_eq_true rfl⟩ rfl (rest := []) rfl (Nat.le_of_ble_eq_true rfl) dX4_number_108 (fun H locs hd => ?_)
            exact retVe (cf := (cM G)) C hr hlk hd he dX4_number_111
          · replace he := i_f hc14 he
            refine lv_iload hx hb dX4_number_90 (lv_at hl 4 rfl) ?_
            refine lv_i2l hx hb dX4_number_92 rfl ?_
            refine lv_iload_n hx hb dX4_number_93 rfl (lv_at hl 1 rfl) ?_
            refine lv_i2l hx hb dX4_number_94 rfl ?_
            refine lv_iload_n hx hb dX4_number_95 rfl (lv_at hl 2 rfl) ?_
            refine lv_i2l hx hb dX4_number_96 rfl ?_
            replace he := b_some he
            obtain ⟨⟨r16, V16⟩, h16, he⟩ := he
            refine kSZ C hd hl.1 kw_X4_44 (c_X4_in l G hJ h16) ⟨Nat.le_of_ble_eq_true rfl, Nat.le_of_ble_eq_true rfl⟩ rfl (rest := [.ref _]) rfl (Nat.le_of_ble_eq_true rfl) dX4_number_97 (fun H locs hz16 hd => ?_)
            refine lv_if_eq (tgt := 107) hx hb dX4_number_100 (by decide) (fun hc17 => ?_) (fun hc17 => ?_)
            · replace he := i_t hc17 he
              refine lv_iconst (v := 0) hx hb dX4_number_107 (by decide) ?_
              replace he := b_some he
              obtain ⟨V18, h18, he⟩ := he
              refine kVV C hd hl.1 kw_X4_243 (by decide) cM0 rfl (c_X4_must l G hJ h18) ⟨Nat.le_of_ble_eq_true rfl, Nat.le_of_ble_eq_true rfl⟩ rfl (rest := []) rfl (Nat.le_of_ble_eq_true rfl) dX4_number_108 (fun H locs hd => ?_)
              exact retVe (cf := (cM G)) C hr hlk hd he dX4_number_111
            · replace he := i_f hc17 he
              refine lv_iconst (v := 1) hx hb dX4_number_103 (by decide) ?_
              refine lv_goto (tgt := 108) hx hb dX4_number_104 (by decide) ?_
              replace he := b_some he
              obtain ⟨V19, h19, he⟩ := he
              refine kVV C hd hl.1 kw_X4_243 (by decide) cM0 rfl (c_X4_must l G hJ h19) ⟨Nat.le_of_ble_eq_true rfl, Nat.le_of_ble_eq_true rfl⟩ rfl (rest := []) rfl (Nat.le_of_ble_eq_true rfl) dX4_number_108 (fun H locs hd => ?_)
              exact retVe (cf := (cM G)) C hr hlk hd he dX4_number_111
        · replace he := i_f hc12 he
          refine lv_iload hx hb dX4_number_42 (lv_at hl 4 rfl) ?_
          refine lv_sipush (v := 999) hx hb dX4_number_44 (by decide) ?_
          refine lv_icmp_le (tgt := 55) hx hb dX4_number_47 (by decide) (fun hc20 => ?_) (fun hc20 => ?_)
          · replace he := i_t hc20 he
            refine lv_bipush (v := 10) hx hb dX4_number_55 (by decide) ?_
            refine lv_iload hx hb dX4_number_57 (lv_at hl 4 rfl) ?_
            refine lv_imul hx hb dX4_number_59 ?_
            refine lv_aload_n hx hb dX4_number_60 rfl (lv_at hl 0 rfl) ?_
            refine rgetf C hd (by decide) cM0 rfl tgX4 8 (by decide) tw709 rfl dX4_number_61 ?_
            refine lv_iload hx hb dX4_number_64 (lv_at hl 5 rfl) ?_
            replace he := g_some he
            obtain ⟨hi21, he⟩ := he
            refine riald C hd (by decide) cMa6 hi21 dX4_number_66 ?_
            refine lv_iadd hx hb dX4_number_67 ?_
            refine lv_bipush (v := 48) hx hb dX4_number_68 (by decide) ?_
            refine lv_isub hx hb dX4_number_70 ?_
            refine lv_istore (lv' := [(4, .int _), (0, .ref _), (1, .int _), (2, .int _), (3, .int _), (5, .int _)]) hx hb dX4_number_71 hl (by decide) rfl (fun ls hl => ?_)
            refine lv_iinc (v := _ + 1) (lv' := [(5, .int _), (4, .int _), (0, .ref _), (1, .int _), (2, .int _), (3, .int _)]) hx hb dX4_number_73 hl (k := 5) rfl rfl (by decide) rfl (fun ls hl => ?_)
            refine lv_goto (tgt := 29) hx hb dX4_number_76 (by decide) ?_
            exact ih29 _ _ _ _ _ _ _ _ _ (lv_sub hl [2, 3, 4, 5, 1, 0] rfl) hd he
          · replace he := i_f hc20 he
            refine lv_iload hx hb dX4_number_50 (lv_at hl 4 rfl) ?_
            refine lv_goto (tgt := 71) hx hb dX4_number_52 (by decide) ?_
            refine lv_istore (lv' := [(4, .int _), (0, .ref _), (1, .int _), (2, .int _), (3, .int _), (5, .int _)]) hx hb dX4_number_71 hl (by decide) rfl (fun ls hl => ?_)
            refine lv_iinc (v := _ + 1) (lv' := [(5, .int _), (4, .int _), (0, .ref _), (1, .int _), (2, .int _), (3, .int _)]) hx hb dX4_number_73 hl (k := 5) rfl rfl (by decide) rfl (fun ls hl => ?_)
            refine lv_goto (tgt := 29) hx hb dX4_number_76 (by decide) ?_
            exact ih29 _ _ _ _ _ _ _ _ _ (lv_sub hl [2, 3, 4, 5, 1, 0] rfl) hd he
  unfold f_X4_number at he
  refine lv_aload_n hx hb dX4_number_0 rfl (lv_at hl 0 rfl) ?_
  refine rgetf C hd (by decide) cM0 rfl tgX4 13 (by decide) tw714 rfl dX4_number_1 ?_
  refine lv_if_eq (tgt := 8) hx hb dX4_number_4 (by decide) (fun hc1 => ?_) (fun hc1 => ?_)
  · replace he := i_t hc1 he
    refine lv_aload_n hx hb dX4_number_8 rfl (lv_at hl 0 rfl) ?_
    refine lv_aload_n hx hb dX4_number_9 rfl (lv_at hl 0 rfl) ?_
    refine rgetf C hd (by decide) cM0 rfl tgX4 10 (by decide) tw711 rfl dX4_number_10 ?_
    replace he := b_some he
    obtain ⟨⟨r2, V2⟩, h2, he⟩ := he
    refine kVI C hd hl.1 kw_X4_220 (by decide) cM0 rfl (c_X4_byteAt l G hJ h2) ⟨Nat.le_of_ble_eq_true rfl, Nat.le_of_ble_eq_true rfl⟩ rfl (rest := []) rfl (Nat.le_of_ble_eq_true rfl) dX4_number_13 (fun H locs hd => ?_)
    replace he := b_some he
    obtain ⟨⟨r3, V3⟩, h3, he⟩ := he
    refine kSZ C hd hl.1 kw_X4_226 (c_X4_isDigit l G hJ h3) ⟨Nat.le_of_ble_eq_true rfl, Nat.le_of_ble_eq_true rfl⟩ rfl (rest := []) rfl (Nat.le_of_ble_eq_true rfl) dX4_number_16 (fun H locs hz3 hd => ?_)
    refine lv_istore_n (lv' := [(3, .int _), (0, .ref _), (1, .int _), (2, .int _)]) hx hb dX4_number_19 rfl hl (by decide) rfl (fun ls hl => ?_)
    refine lv_iconst (v := 0) hx hb dX4_number_20 (by decide) ?_
    refine lv_istore (lv' := [(4, .int _), (3, .int _), (0, .ref _), (1, .int _), (2, .int _)]) hx hb dX4_number_21 hl (by decide) rfl (fun ls hl => ?_)
    refine lv_aload_n hx hb dX4_number_23 rfl (lv_at hl 2 rfl) ?_
    refine rgetf C hd (by decide) cM0 rfl tgX4 10 (by decide) tw711 rfl dX4_number_24 ?_
    refine lv_istore (lv' := [(5, .int _), (4, .int _), (3, .int _), (0, .ref _), (1, .int _), (2, .int _)]) hx hb dX4_number_27 hl (by decide) rfl (fun ls hl => ?_)
    exact L29 200 _ _ _ _ _ _ _ _ _ (lv_sub hl [3, 4, 5, 2, 1, 0] rfl) hd he
  · replace he := i_f hc1 he
    exact retVe (cf := (cM G)) C hr hlk hd he dX4_number_7
set_option maxRecDepth 100000 in
set_option maxHeartbeats 4000000 in
theorem c_X4_kindHere (l : Launch) (G : Gd) (hJ : Inj 11 G.2.2) {V V' : VV} {r : Int32} (he : f_X4_kindHere V = some (r, V')) : MI l 11 G XM yX4_kindHere cX4_kindHere 3 3 68 [.ref (G.2.2 0)] (cM G V) (cM G V') r := by
  refine walk_of (own := RX4) (by decide) rfl hJ (xs_M G) (Nat.le_of_ble_eq_true rfl) ?_
  intro p e s m below meth c C hr hlk ls hl hd
  have hl : lv_has ls 3 [(0, .ref (G.2.2 0))] := hl
  obtain ⟨⟨hx, hb, hml, hown, hts⟩, -⟩ := id C
  unfold f_X4_kindHere at he
  refine lv_aload_n hx hb dX4_kindHere_0 rfl (lv_at hl 0 rfl) ?_
  replace he := b_some he
  obtain ⟨⟨r1, V1⟩, h1, he⟩ := he
  refine kVJ C hd hl.1 kw_X4_247 (by decide) cM0 rfl (c_X4_word l G hJ h1) ⟨Nat.le_of_ble_eq_true rfl, Nat.le_of_ble_eq_true rfl⟩ rfl (rest := []) rfl (Nat.le_of_ble_eq_true rfl) dX4_kindHere_1 (fun H locs hd => ?_)
  refine lv_lstore_n (lv' := [(1, .long _), (0, .ref _)]) hx hb dX4_kindHere_4 rfl hl (by decide) rfl (fun ls hl => ?_)
  refine lv_lload_n hx hb dX4_kindHere_5 rfl (lv_at hl 0 rfl) ?_
  refine lv_ldc2 hx hb hown (hts _ tw1064) dX4_kindHere_6 ?_
  refine W.lcmp hx hb dX4_kindHere_9 ?_
  refine lv_if_ne (tgt := 17) hx hb dX4_kindHere_10 (by decide) (fun hc2 => ?_) (fun hc2 => ?_)
  · replace he := i_f hc2 he
    refine lv_lload_n hx hb dX4_kindHere_17 rfl (lv_at hl 0 rfl) ?_
    refine lv_ldc2 hx hb hown (hts _ tw1065) dX4_kindHere_18 ?_
    refine W.lcmp hx hb dX4_kindHere_21 ?_
    refine lv_if_ne (tgt := 29) hx hb dX4_kindHere_22 (by decide) (fun hc3 => ?_) (fun hc3 => ?_)
    · replace he := i_f hc3 he
      refine lv_lload_n hx hb dX4_kindHere_29 rfl (lv_at hl 0 rfl) ?_
      refine lv_ldc2 hx hb hown (hts _ tw1066) dX4_kindHere_30 ?_
      refine W.lcmp hx hb dX4_kindHere_33 ?_
      refine lv_if_ne (tgt := 41) hx hb dX4_kindHere_34 (by decide) (fun hc4 => ?_) (fun hc4 => ?_)
      · replace he := i_f hc4 he
        refine lv_lload_n hx hb dX4_kindHere_41 rfl (lv_at hl 0 rfl) ?_
        refine lv_ldc2 hx hb hown (hts _ tw1067) dX4_kindHere_42 ?_
        refine W.lcmp hx hb dX4_kindHere_45 ?_
        refine lv_if_ne (tgt := 53) hx hb dX4_kindHere_46 (by decide) (fun hc5 => ?_) (fun hc5 => ?_)
        · replace he := i_f hc5 he
          refine lv_lload_n hx hb dX4_kindHere_53 rfl (lv_at hl 0 rfl) ?_
          refine lv_ldc2 hx hb hown (hts _ tw1068) dX4_kindHere_54 ?_
          refine W.lcmp hx hb dX4_kindHere_57 ?_
          refine lv_if_ne (tgt := 65) hx hb dX4_kindHere_58 (by decide) (fun hc6 => ?_) (fun hc6 => ?_)
          · replace he := i_f hc6 he
            refine lv_lload_n hx hb dX4_kindHere_65 rfl (lv_at hl 0 rfl) ?_
            refine lv_ldc2 hx hb hown (hts _ tw1069) dX4_kindHere_66 ?_
            refine W.lcmp hx hb dX4_kindHere_69 ?_
            refine lv_if_ne (tgt := 77) hx hb dX4_kindHere_70 (by decide) (fun hc7 => ?_) (fun hc7 => ?_)
            · replace he := i_f hc7 he
              refine lv_iconst (v := (-1)) hx hb dX4_kindHere_77 (by decide) ?_
              exact retIe (cf := (cM G)) C hr hlk hd he dX4_kindHere_78
            · replace he := i_t hc7 he
              refine lv_iconst (v := 5) hx hb dX4_kindHere_73 (by decide) ?_
              refine lv_goto (tgt := 78) hx hb dX4_kindHere_74 (by decide) ?_
              exact retIe (cf := (cM G)) C hr hlk hd he dX4_kindHere_78
          · replace he := i_t hc6 he
            refine lv_iconst (v := 4) hx hb dX4_kindHere_61 (by decide) ?_
            refine lv_goto (tgt := 78) hx hb dX4_kindHere_62 (by decide) ?_
            exact retIe (cf := (cM G)) C hr hlk hd he dX4_kindHere_78
        · replace he := i_t hc5 he
          refine lv_iconst (v := 3) hx hb dX4_kindHere_49 (by decide) ?_
          refine lv_goto (tgt := 78) hx hb dX4_kindHere_50 (by decide) ?_
          exact retIe (cf := (cM G)) C hr hlk hd he dX4_kindHere_78
      · replace he := i_t hc4 he
        refine lv_iconst (v := 2) hx hb dX4_kindHere_37 (by decide) ?_
        refine lv_goto (tgt := 78) hx hb dX4_kindHere_38 (by decide) ?_
        exact retIe (cf := (cM G)) C hr hlk hd he dX4_kindHere_78
    · replace he := i_t hc3 he
      refine lv_iconst (v := 1) hx hb dX4_kindHere_25 (by decide) ?_
      refine lv_goto (tgt := 78) hx hb dX4_kindHere_26 (by decide) ?_
      exact retIe (cf := (cM G)) C hr hlk hd he dX4_kindHere_78
  · replace he := i_t hc2 he
    refine lv_iconst (v := 0) hx hb dX4_kindHere_13 (by decide) ?_
    refine lv_goto (tgt := 78) hx hb dX4_kindHere_14 (by decide) ?_
    exact retIe (cf := (cM G)) C hr hlk hd he dX4_kindHere_78
set_option maxRecDepth 100000 in
set_option maxHeartbeats 4000000 in
theorem c_X4_partItem (l : Launch) (G : Gd) (hJ : Inj 11 G.2.2) {a1 : Int64} {a2 : Int32} {a3 : Int32} {V V' : VV} (he : f_X4_partItem a1 a2 a3 V = some V') : MV l 11 G XM yX4_partItem cX4_partItem 5 5 113 [.ref (G.2.2 0), .long a1, .int a2, .int a3] (cM G V) (cM G V') := by
  refine walk_of (own := RX4) (by decide) rfl hJ (xs_M G) (Nat.le_of_ble_eq_true rfl) ?_
  intro p e s m below meth c C hr hlk ls hl hd
  have hl : lv_has ls 5 [(0, .ref (G.2.2 0)), (1, .long a1), (3, .int a2), (4, .int a3)] := hl
  obtain ⟨⟨hx, hb, hml, hown, hts⟩, -⟩ := id C
  unfold f_X4_partItem at he
  refine lv_aload_n hx hb dX4_partItem_0 rfl (lv_at hl 0 rfl) ?_
  replace he := b_some he
  obtain ⟨⟨r1, V1⟩, h1, he⟩ := he
  refine kVJ C hd hl.1 kw_X4_247 (by decide) cM0 rfl (c_X4_word l G hJ h1) ⟨Nat.le_of_ble_eq_true rfl, Nat.le_of_ble_eq_true rfl⟩ rfl (rest := []) rfl (Nat.le_of_ble_eq_true rfl) dX4_partItem_1 (fun H locs hd => ?_)
  refine lv_lload_n hx hb dX4_partItem_4 rfl (lv_at hl 1 rfl) ?_
  refine W.lcmp hx hb dX4_partItem_5 ?_
  refine lv_if_ne (tgt := 47) hx hb dX4_partItem_6 (by decide) (fun hc2 => ?_) (fun hc2 => ?_)
  · replace he := i_f hc2 he
    exact retVe (cf := (cM G)) C hr hlk hd he dX4_partItem_47
  · replace he := i_t hc2 he
    refine lv_aload_n hx hb dX4_partItem_9 rfl (lv_at hl 0 rfl) ?_
    refine lv_iconst (v := 1) hx hb dX4_partItem_10 (by decide) ?_
    replace he := b_some he
    obtain ⟨V3, h3, he⟩ := he
    refine kVV C hd hl.1 kw_X4_243 (by decide) cM0 rfl (c_X4_must l G hJ h3) ⟨Nat.le_of_ble_eq_true rfl, Nat.le_of_ble_eq_true rfl⟩ rfl (rest := []) rfl (Nat.le_of_ble_eq_true rfl) dX4_partItem_11 (fun H locs hd => ?_)
    refine lv_aload_n hx hb dX4_partItem_14 rfl (lv_at hl 0 rfl) ?_
    refine lv_iconst (v := 0) hx hb dX4_partItem_15 (by decide) ?_
    refine lv_iload hx hb dX4_partItem_16 (lv_at hl 3 rfl) ?_
    replace he := b_some he
    obtain ⟨V4, h4, he⟩ := he
    refine kVV C hd hl.1 kw_X4_263 (by decide) cM0 rfl (c_X4_number l G hJ h4) ⟨Nat.le_of_ble_eq_true rfl, Nat.le_of_ble_eq_true rfl⟩ rfl (rest := []) rfl (Nat.le_of_ble_eq_true rfl) dX4_partItem_18 (fun H locs hd => ?_)
    refine lv_aload_n hx hb dX4_partItem_21 rfl (lv_at hl 0 rfl) ?_
    refine rgetf C hd (by decide) cM0 rfl tgX4 0 (by decide) tw701 rfl dX4_partItem_22 ?_
    refine lv_iload_n hx hb dX4_partItem_25 rfl (lv_at hl 2 rfl) ?_
    refine lv_aload_n hx hb dX4_partItem_26 rfl (lv_at hl 0 rfl) ?_
    refine rgetf C hd (by decide) cM0 rfl tgX4 13 (by decide) tw714 rfl dX4_partItem_27 ?_
    refine lv_if_eq (tgt := 42) hx hb dX4_partItem_30 (by decide) (fun hc5 => ?_) (fun hc5 => ?_)
    · replace he := i_t hc5 he
      refine lv_aload_n hx hb dX4_partItem_42 rfl (lv_at hl 0 rfl) ?_
      refine rgetf C hd (by decide) cM0 rfl tgX4 12 (by decide) tw713 rfl dX4_partItem_43 ?_
      replace he := g_some he
      obtain ⟨hi6, he⟩ := he
      replace he := bv_ex he
      obtain ⟨V7, e7, he⟩ := he
      refine riast (cell' := (cM G) V7) C hd (by decide) cMa1 hi6 (cMaw1 e7) (cM_ne e7) dX4_partItem_46 (fun H locs hd => ?_)
      exact retVe (cf := (cM G)) C hr hlk hd he dX4_partItem_47
    · replace he := i_f hc5 he
      refine lv_aload_n hx hb dX4_partItem_33 rfl (lv_at hl 0 rfl) ?_
      refine rgetf C hd (by decide) cM0 rfl tgX4 0 (by decide) tw701 rfl dX4_partItem_34 ?_
      refine lv_iload_n hx hb dX4_partItem_37 rfl (lv_at hl 2 rfl) ?_
      replace he := g_some he
      obtain ⟨hi8, he⟩ := he
      refine riald C hd (by decide) cMa1 hi8 dX4_partItem_38 ?_
      refine lv_goto (tgt := 46) hx hb dX4_partItem_39 (by decide) ?_
      replace he := g_some he
      obtain ⟨hi9, he⟩ := he
      replace he := bv_ex he
      obtain ⟨V10, e10, he⟩ := he
      refine riast (cell' := (cM G) V10) C hd (by decide) cMa1 hi9 (cMaw1 e10) (cM_ne e10) dX4_partItem_46 (fun H locs hd => ?_)
      exact retVe (cf := (cM G)) C hr hlk hd he dX4_partItem_47
set_option maxRecDepth 100000 in
set_option maxHeartbeats 4000000 in
theorem c_X4_walkerItem (l : Launch) (G : Gd) (hJ : Inj 11 G.2.2) {a1 : Int32} {V V' : VV} (he : f_X4_walkerItem a1 V = some V') : MV l 11 G XM yX4_walkerItem cX4_walkerItem 3 6 137 [.ref (G.2.2 0), .int a1] (cM G V) (cM G V') := by
  refine walk_of (own := RX4) (by decide) rfl hJ (xs_M G) (Nat.le_of_ble_eq_true rfl) ?_
  intro p e s m below meth c C hr hlk ls hl hd
  have hl : lv_has ls 3 [(0, .ref (G.2.2 0)), (1, .int a1)] := hl
  obtain ⟨⟨hx, hb, hml, hown, hts⟩, -⟩ := id C
  unfold f_X4_walkerItem at he
  refine lv_aload_n hx hb dX4_walkerItem_0 rfl (lv_at hl 0 rfl) ?_
  refine lv_aload_n hx hb dX4_walkerItem_1 rfl (lv_at hl 0 rfl) ?_
  refine rgetf C hd (by decide) cM0 rfl tgX4 0 (by decide) tw701 rfl dX4_walkerItem_2 ?_
  refine lv_iconst (v := 0) hx hb dX4_walkerItem_5 (by decide) ?_
  replace he := g_some he
  obtain ⟨hi1, he⟩ := he
  refine riald C hd (by decide) cMa1 hi1 dX4_walkerItem_6 ?_
  refine lv_bipush (v := 8) hx hb dX4_walkerItem_7 (by decide) ?_
  refine lv_icmp_ge (tgt := 16) hx hb dX4_walkerItem_9 (by decide) (fun hc2 => ?_) (fun hc2 => ?_)
  · replace he := i_t hc2 he
    refine lv_iconst (v := 0) hx hb dX4_walkerItem_16 (by decide) ?_
    replace he := b_some he
    obtain ⟨V3, h3, he⟩ := he
    refine kVV C hd hl.1 kw_X4_243 (by decide) cM0 rfl (c_X4_must l G hJ h3) ⟨Nat.le_of_ble_eq_true rfl, Nat.le_of_ble_eq_true rfl⟩ rfl (rest := []) rfl (Nat.le_of_ble_eq_true rfl) dX4_walkerItem_17 (fun H locs hd => ?_)
    refine lv_aload_n hx hb dX4_walkerItem_20 rfl (lv_at hl 0 rfl) ?_
    refine lv_aload_n hx hb dX4_walkerItem_21 rfl (lv_at hl 0 rfl) ?_
    replace he := b_some he
    obtain ⟨⟨r4, V4⟩, h4, he⟩ := he
    refine kVJ C hd hl.1 kw_X4_247 (by decide) cM0 rfl (c_X4_word l G hJ h4) ⟨Nat.le_of_ble_eq_true rfl, Nat.le_of_ble_eq_true rfl⟩ rfl (rest := [.ref _]) rfl (Nat.le_of_ble_eq_true rfl) dX4_walkerItem_22 (fun H locs hd => ?_)
    refine lv_ldc2 hx hb hown (hts _ tw1079) dX4_walkerItem_25 ?_
    refine W.lcmp hx hb dX4_walkerItem_28 ?_
    refine lv_if_ne (tgt := 36) hx hb dX4_walkerItem_29 (by decide) (fun hc5 => ?_) (fun hc5 => ?_)
    · replace he := i_f hc5 he
      refine lv_iconst (v := 0) hx hb dX4_walkerItem_36 (by decide) ?_
      replace he := b_some he
      obtain ⟨V6, h6, he⟩ := he
      refine kVV C hd hl.1 kw_X4_243 (by decide) cM0 rfl (c_X4_must l G hJ h6) ⟨Nat.le_of_ble_eq_true rfl, Nat.le_of_ble_eq_true rfl⟩ rfl (rest := []) rfl (Nat.le_of_ble_eq_true rfl) dX4_walkerItem_37 (fun H locs hd => ?_)
      refine lv_aload_n hx hb dX4_walkerItem_40 rfl (lv_at hl 0 rfl) ?_
      refine lv_iconst (v := 0) hx hb dX4_walkerItem_41 (by decide) ?_
      refine lv_bipush (v := 35) hx hb dX4_walkerItem_42 (by decide) ?_
      replace he := b_some he
      obtain ⟨V7, h7, he⟩ := he
      refine kVV C hd hl.1 kw_X4_263 (by decide) cM0 rfl (c_X4_number l G hJ h7) ⟨Nat.le_of_ble_eq_true rfl, Nat.le_of_ble_eq_true rfl⟩ rfl (rest := []) rfl (Nat.le_of_ble_eq_true rfl) dX4_walkerItem_44 (fun H locs hd => ?_)
      refine lv_aload_n hx hb dX4_walkerItem_47 rfl (lv_at hl 0 rfl) ?_
      refine rgetf C hd (by decide) cM0 rfl tgX4 13 (by decide) tw714 rfl dX4_walkerItem_48 ?_
      refine lv_if_eq (tgt := 55) hx hb dX4_walkerItem_51 (by decide) (fun hc8 => ?_) (fun hc8 => ?_)
      · replace he := i_t hc8 he
        refine lv_aload_n hx hb dX4_walkerItem_55 rfl (lv_at hl 0 rfl) ?_
        refine lv_iload_n hx hb dX4_walkerItem_56 rfl (lv_at hl 1 rfl) ?_
        refine lv_aload_n hx hb dX4_walkerItem_57 rfl (lv_at hl 0 rfl) ?_
        refine rgetf C hd (by decide) cM0 rfl tgX4 12 (by decide) tw713 rfl dX4_walkerItem_58 ?_
        replace he := b_some he
        obtain ⟨⟨r9, V9⟩, h9, he⟩ := he
        refine kVI C hd hl.1 kw_X4_80 (by decide) cM0 rfl (c_X4_adds l G hJ h9) ⟨Nat.le_of_ble_eq_true rfl, Nat.le_of_ble_eq_true rfl⟩ rfl (rest := []) rfl (Nat.le_of_ble_eq_true rfl) dX4_walkerItem_61 (fun H locs hd => ?_)
        refine lv_istore_n (lv' := [(2, .int _), (0, .ref _), (1, .int _)]) hx hb dX4_walkerItem_64 rfl hl (by decide) rfl (fun ls hl => ?_)
        refine lv_aload_n hx hb dX4_walkerItem_65 rfl (lv_at hl 1 rfl) ?_
        refine lv_ldc2 hx hb hown (hts _ tw1084) dX4_walkerItem_66 ?_
        refine lv_iload_n hx hb dX4_walkerItem_69 rfl (lv_at hl 0 rfl) ?_
        refine lv_iconst (v := 3) hx hb dX4_walkerItem_70 (by decide) ?_
        replace he := b_some he
        obtain ⟨⟨r10, V10⟩, h10, he⟩ := he
        refine kSI C hd hl.1 kw_X4_54 (c_X4_spotOf l G hJ h10) ⟨Nat.le_of_ble_eq_true rfl, Nat.le_of_ble_eq_true rfl⟩ rfl (rest := [.long _, .ref _]) rfl (Nat.le_of_ble_eq_true rfl) dX4_walkerItem_71 (fun H locs hd => ?_)
        refine lv_iconst (v := 3) hx hb dX4_walkerItem_74 (by decide) ?_
        replace he := b_some he
        obtain ⟨V11, h11, he⟩ := he
        refine kVV C hd hl.1 kw_X4_270 (by decide) cM0 rfl (c_X4_partItem l G hJ h11) ⟨Nat.le_of_ble_eq_true rfl, Nat.le_of_ble_eq_true rfl⟩ rfl (rest := []) rfl (Nat.le_of_ble_eq_true rfl) dX4_walkerItem_75 (fun H locs hd => ?_)
        refine lv_aload_n hx hb dX4_walkerItem_78 rfl (lv_at hl 1 rfl) ?_
        refine lv_ldc2 hx hb hown (hts _ tw1089) dX4_walkerItem_79 ?_
        refine lv_iload_n hx hb dX4_walkerItem_82 rfl (lv_at hl 0 rfl) ?_
        refine lv_iconst (v := 4) hx hb dX4_walkerItem_83 (by decide) ?_
        replace he := b_some he
        obtain ⟨⟨r12, V12⟩, h12, he⟩ := he
        refine kSI C hd hl.1 kw_X4_54 (c_X4_spotOf l G hJ h12) ⟨Nat.le_of_ble_eq_true rfl, Nat.le_of_ble_eq_true rfl⟩ rfl (rest := [.long _, .ref _]) rfl (Nat.le_of_ble_eq_true rfl) dX4_walkerItem_84 (fun H locs hd => ?_)
        refine lv_bipush (v := 15) hx hb dX4_walkerItem_87 (by decide) ?_
        replace he := b_some he
        obtain ⟨V13, h13, he⟩ := he
        refine kVV C hd hl.1 kw_X4_270 (by decide) cM0 rfl (c_X4_partItem l G hJ h13) ⟨Nat.le_of_ble_eq_true rfl, Nat.le_of_ble_eq_true rfl⟩ rfl (rest := []) rfl (Nat.le_of_ble_eq_true rfl) dX4_walkerItem_89 (fun H locs hd => ?_)
        exact retVe (cf := (cM G)) C hr hlk hd he dX4_walkerItem_92
      · replace he := i_f hc8 he
        exact retVe (cf := (cM G)) C hr hlk hd he dX4_walkerItem_54
    · replace he := i_t hc5 he
      refine lv_iconst (v := 1) hx hb dX4_walkerItem_32 (by decide) ?_
      refine lv_goto (tgt := 37) hx hb dX4_walkerItem_33 (by decide) ?_
      replace he := b_some he
      obtain ⟨V14, h14, he⟩ := he
      refine kVV C hd hl.1 kw_X4_243 (by decide) cM0 rfl (c_X4_must l G hJ h14) ⟨Nat.le_of_ble_eq_true rfl, Nat.le_of_ble_eq_true rfl⟩ rfl (rest := []) rfl (Nat.le_of_ble_eq_true rfl) dX4_walkerItem_37 (fun H locs hd => ?_)
      refine lv_aload_n hx hb dX4_walkerItem_40 rfl (lv_at hl 0 rfl) ?_
      refine lv_iconst (v := 0) hx hb dX4_walkerItem_41 (by decide) ?_
      refine lv_bipush (v := 35) hx hb dX4_walkerItem_42 (by decide) ?_
      replace he := b_some he
      obtain ⟨V15, h15, he⟩ := he
      refine kVV C hd hl.1 kw_X4_263 (by decide) cM0 rfl (c_X4_number l G hJ h15) ⟨Nat.le_of_ble_eq_true rfl, Nat.le_of_ble_eq_true rfl⟩ rfl (rest := []) rfl (Nat.le_of_ble_eq_true rfl) dX4_walkerItem_44 (fun H locs hd => ?_)
      refine lv_aload_n hx hb dX4_walkerItem_47 rfl (lv_at hl 0 rfl) ?_
      refine rgetf C hd (by decide) cM0 rfl tgX4 13 (by decide) tw714 rfl dX4_walkerItem_48 ?_
      refine lv_if_eq (tgt := 55) hx hb dX4_walkerItem_51 (by decide) (fun hc16 => ?_) (fun hc16 => ?_)
      · replace he := i_t hc16 he
        refine lv_aload_n hx hb dX4_walkerItem_55 rfl (lv_at hl 0 rfl) ?_
        refine lv_iload_n hx hb dX4_walkerItem_56 rfl (lv_at hl 1 rfl) ?_
        refine lv_aload_n hx hb dX4_walkerItem_57 rfl (lv_at hl 0 rfl) ?_
        refine rgetf C hd (by decide) cM0 rfl tgX4 12 (by decide) tw713 rfl dX4_walkerItem_58 ?_
        replace he := b_some he
        obtain ⟨⟨r17, V17⟩, h17, he⟩ := he
        refine kVI C hd hl.1 kw_X4_80 (by decide) cM0 rfl (c_X4_adds l G hJ h17) ⟨Nat.le_of_ble_eq_true rfl, Nat.le_of_ble_eq_true rfl⟩ rfl (rest := []) rfl (Nat.le_of_ble_eq_true rfl) dX4_walkerItem_61 (fun H locs hd => ?_)
        refine lv_istore_n (lv' := [(2, .int _), (0, .ref _), (1, .int _)]) hx hb dX4_walkerItem_64 rfl hl (by decide) rfl (fun ls hl => ?_)
        refine lv_aload_n hx hb dX4_walkerItem_65 rfl (lv_at hl 1 rfl) ?_
        refine lv_ldc2 hx hb hown (hts _ tw1084) dX4_walkerItem_66 ?_
        refine lv_iload_n hx hb dX4_walkerItem_69 rfl (lv_at hl 0 rfl) ?_
        refine lv_iconst (v := 3) hx hb dX4_walkerItem_70 (by decide) ?_
        replace he := b_some he
        obtain ⟨⟨r18, V18⟩, h18, he⟩ := he
        refine kSI C hd hl.1 kw_X4_54 (c_X4_spotOf l G hJ h18) ⟨Nat.le_of_ble_eq_true rfl, Nat.le_of_ble_eq_true rfl⟩ rfl (rest := [.long _, .ref _]) rfl (Nat.le_of_ble_eq_true rfl) dX4_walkerItem_71 (fun H locs hd => ?_)
        refine lv_iconst (v := 3) hx hb dX4_walkerItem_74 (by decide) ?_
        replace he := b_some he
        obtain ⟨V19, h19, he⟩ := he
        refine kVV C hd hl.1 kw_X4_270 (by decide) cM0 rfl (c_X4_partItem l G hJ h19) ⟨Nat.le_of_ble_eq_true rfl, Nat.le_of_ble_eq_true rfl⟩ rfl (rest := []) rfl (Nat.le_of_ble_eq_true rfl) dX4_walkerItem_75 (fun H locs hd => ?_)
        refine lv_aload_n hx hb dX4_walkerItem_78 rfl (lv_at hl 1 rfl) ?_
        refine lv_ldc2 hx hb hown (hts _ tw1089) dX4_walkerItem_79 ?_
        refine lv_iload_n hx hb dX4_walkerItem_82 rfl (lv_at hl 0 rfl) ?_
        refine lv_iconst (v := 4) hx hb dX4_walkerItem_83 (by decide) ?_
        replace he := b_some he
        obtain ⟨⟨r20, V20⟩, h20, he⟩ := he
        refine kSI C hd hl.1 kw_X4_54 (c_X4_spotOf l G hJ h20) ⟨Nat.le_of_ble_eq_true rfl, Nat.le_of_ble_eq_true rfl⟩ rfl (rest := [.long _, .ref _]) rfl (Nat.le_of_ble_eq_true rfl) dX4_walkerItem_84 (fun H locs hd => ?_)
        refine lv_bipush (v := 15) hx hb dX4_walkerItem_87 (by decide) ?_
        replace he := b_some he
        obtain ⟨V21, h21, he⟩ := he
        refine kVV C hd hl.1 kw_X4_270 (by decide) cM0 rfl (c_X4_partItem l G hJ h21) ⟨Nat.le_of_ble_eq_true rfl, Nat.le_of_ble_eq_true rfl⟩ rfl (rest := []) rfl (Nat.le_of_ble_eq_true rfl) dX4_walkerItem_89 (fun H locs hd => ?_)
        exact retVe (cf := (cM G)) C hr hlk hd he dX4_walkerItem_92
      · replace he := i_f hc16 he
        exact retVe (cf := (cM G)) C hr hlk hd he dX4_walkerItem_54
  · replace he := i_f hc2 he
    refine lv_iconst (v := 1) hx hb dX4_walkerItem_12 (by decide) ?_
    refine lv_goto (tgt := 17) hx hb dX4_walkerItem_13 (by decide) ?_
    replace he := b_some he
    obtain ⟨V22, h22, he⟩ := he
    refine kVV C hd hl.1 kw_X4_243 (by decide) cM0 rfl (c_X4_must l G hJ h22) ⟨Nat.le_of_ble_eq_true rfl, Nat.le_of_ble_eq_true rfl⟩ rfl (rest := []) rfl (Nat.le_of_ble_eq_true rfl) dX4_walkerItem_17 (fun H locs hd => ?_)
    refine lv_aload_n hx hb dX4_walkerItem_20 rfl (lv_at hl 0 rfl) ?_
    refine lv_aload_n hx hb dX4_walkerItem_21 rfl (lv_at hl 0 rfl) ?_
    replace he := b_some he
    obtain ⟨⟨r23, V23⟩, h23, he⟩ := he
    refine kVJ C hd hl.1 kw_X4_247 (by decide) cM0 rfl (c_X4_word l G hJ h23) ⟨Nat.le_of_ble_eq_true rfl, Nat.le_of_ble_eq_true rfl⟩ rfl (rest := [.ref _]) rfl (Nat.le_of_ble_eq_true rfl) dX4_walkerItem_22 (fun H locs hd => ?_)
    refine lv_ldc2 hx hb hown (hts _ tw1079) dX4_walkerItem_25 ?_
    refine W.lcmp hx hb dX4_walkerItem_28 ?_
    refine lv_if_ne (tgt := 36) hx hb dX4_walkerItem_29 (by decide) (fun hc24 => ?_) (fun hc24 => ?_)
    · replace he := i_f hc24 he
      refine lv_iconst (v := 0) hx hb dX4_walkerItem_36 (by decide) ?_
      replace he := b_some he
      obtain ⟨V25, h25, he⟩ := he
      refine kVV C hd hl.1 kw_X4_243 (by decide) cM0 rfl (c_X4_must l G hJ h25) ⟨Nat.le_of_ble_eq_true rfl, Nat.le_of_ble_eq_true rfl⟩ rfl (rest := []) rfl (Nat.le_of_ble_eq_true rfl) dX4_walkerItem_37 (fun H locs hd => ?_)
      refine lv_aload_n hx hb dX4_walkerItem_40 rfl (lv_at hl 0 rfl) ?_
      refine lv_iconst (v := 0) hx hb dX4_walkerItem_41 (by decide) ?_
      refine lv_bipush (v := 35) hx hb dX4_walkerItem_42 (by decide) ?_
      replace he := b_some he
      obtain ⟨V26, h26, he⟩ := he
      refine kVV C hd hl.1 kw_X4_263 (by decide) cM0 rfl (c_X4_number l G hJ h26) ⟨Nat.le_of_ble_eq_true rfl, Nat.le_of_ble_eq_true rfl⟩ rfl (rest := []) rfl (Nat.le_of_ble_eq_true rfl) dX4_walkerItem_44 (fun H locs hd => ?_)
      refine lv_aload_n hx hb dX4_walkerItem_47 rfl (lv_at hl 0 rfl) ?_
      refine rgetf C hd (by decide) cM0 rfl tgX4 13 (by decide) tw714 rfl dX4_walkerItem_48 ?_
      refine lv_if_eq (tgt := 55) hx hb dX4_walkerItem_51 (by decide) (fun hc27 => ?_) (fun hc27 => ?_)
      · replace he := i_t hc27 he
        refine lv_aload_n hx hb dX4_walkerItem_55 rfl (lv_at hl 0 rfl) ?_
        refine lv_iload_n hx hb dX4_walkerItem_56 rfl (lv_at hl 1 rfl) ?_
        refine lv_aload_n hx hb dX4_walkerItem_57 rfl (lv_at hl 0 rfl) ?_
        refine rgetf C hd (by decide) cM0 rfl tgX4 12 (by decide) tw713 rfl dX4_walkerItem_58 ?_
        replace he := b_some he
        obtain ⟨⟨r28, V28⟩, h28, he⟩ := he
        refine kVI C hd hl.1 kw_X4_80 (by decide) cM0 rfl (c_X4_adds l G hJ h28) ⟨Nat.le_of_ble_eq_true rfl, Nat.le_of_ble_eq_true rfl⟩ rfl (rest := []) rfl (Nat.le_of_ble_eq_true rfl) dX4_walkerItem_61 (fun H locs hd => ?_)
        refine lv_istore_n (lv' := [(2, .int _), (0, .ref _), (1, .int _)]) hx hb dX4_walkerItem_64 rfl hl (by decide) rfl (fun ls hl => ?_)
        refine lv_aload_n hx hb dX4_walkerItem_65 rfl (lv_at hl 1 rfl) ?_
        refine lv_ldc2 hx hb hown (hts _ tw1084) dX4_walkerItem_66 ?_
        refine lv_iload_n hx hb dX4_walkerItem_69 rfl (lv_at hl 0 rfl) ?_
        refine lv_iconst (v := 3) hx hb dX4_walkerItem_70 (by decide) ?_
        replace he := b_some he
        obtain ⟨⟨r29, V29⟩, h29, he⟩ := he
        refine kSI C hd hl.1 kw_X4_54 (c_X4_spotOf l G hJ h29) ⟨Nat.le_of_ble_eq_true rfl, Nat.le_of_ble_eq_true rfl⟩ rfl (rest := [.long _, .ref _]) rfl (Nat.le_of_ble_eq_true rfl) dX4_walkerItem_71 (fun H locs hd => ?_)
        refine lv_iconst (v := 3) hx hb dX4_walkerItem_74 (by decide) ?_
        replace he := b_some he
        obtain ⟨V30, h30, he⟩ := he
        refine kVV C hd hl.1 kw_X4_270 (by decide) cM0 rfl (c_X4_partItem l G hJ h30) ⟨Nat.le_of_ble_eq_true rfl, Nat.le_of_ble_eq_true rfl⟩ rfl (rest := []) rfl (Nat.le_of_ble_eq_true rfl) dX4_walkerItem_75 (fun H locs hd => ?_)
        refine lv_aload_n hx hb dX4_walkerItem_78 rfl (lv_at hl 1 rfl) ?_
        refine lv_ldc2 hx hb hown (hts _ tw1089) dX4_walkerItem_79 ?_
        refine lv_iload_n hx hb dX4_walkerItem_82 rfl (lv_at hl 0 rfl) ?_
        refine lv_iconst (v := 4) hx hb dX4_walkerItem_83 (by decide) ?_
        replace he := b_some he
        obtain ⟨⟨r31, V31⟩, h31, he⟩ := he
        refine kSI C hd hl.1 kw_X4_54 (c_X4_spotOf l G hJ h31) ⟨Nat.le_of_ble_eq_true rfl, Nat.le_of_ble_eq_true rfl⟩ rfl (rest := [.long _, .ref _]) rfl (Nat.le_of_ble_eq_true rfl) dX4_walkerItem_84 (fun H locs hd => ?_)
        refine lv_bipush (v := 15) hx hb dX4_walkerItem_87 (by decide) ?_
        replace he := b_some he
        obtain ⟨V32, h32, he⟩ := he
        refine kVV C hd hl.1 kw_X4_270 (by decide) cM0 rfl (c_X4_partItem l G hJ h32) ⟨Nat.le_of_ble_eq_true rfl, Nat.le_of_ble_eq_true rfl⟩ rfl (rest := []) rfl (Nat.le_of_ble_eq_true rfl) dX4_walkerItem_89 (fun H locs hd => ?_)
        exact retVe (cf := (cM G)) C hr hlk hd he dX4_walkerItem_92
      · replace he := i_f hc27 he
        exact retVe (cf := (cM G)) C hr hlk hd he dX4_walkerItem_54
    · replace he := i_t hc24 he
      refine lv_iconst (v := 1) hx hb dX4_walkerItem_32 (by decide) ?_
      refine lv_goto (tgt := 37) hx hb dX4_walkerItem_33 (by decide) ?_
      replace he := b_some he
      obtain ⟨V33, h33, he⟩ := he
      refine kVV C hd hl.1 kw_X4_243 (by decide) cM0 rfl (c_X4_must l G hJ h33) ⟨Nat.le_of_ble_eq_true rfl, Nat.le_of_ble_eq_true rfl⟩ rfl (rest := []) rfl (Nat.le_of_ble_eq_true rfl) dX4_walkerItem_37 (fun H locs hd => ?_)
      refine lv_aload_n hx hb dX4_walkerItem_40 rfl (lv_at hl 0 rfl) ?_
      refine lv_iconst (v := 0) hx hb dX4_walkerItem_41 (by decide) ?_
      refine lv_bipush (v := 35) hx hb dX4_walkerItem_42 (by decide) ?_
      replace he := b_some he
      obtain ⟨V34, h34, he⟩ := he
      refine kVV C hd hl.1 kw_X4_263 (by decide) cM0 rfl (c_X4_number l G hJ h34) ⟨Nat.le_of_ble_eq_true rfl, Nat.le_of_ble_eq_true rfl⟩ rfl (rest := []) rfl (Nat.le_of_ble_eq_true rfl) dX4_walkerItem_44 (fun H locs hd => ?_)
      refine lv_aload_n hx hb dX4_walkerItem_47 rfl (lv_at hl 0 rfl) ?_
      refine rgetf C hd (by decide) cM0 rfl tgX4 13 (by decide) tw714 rfl dX4_walkerItem_48 ?_
      refine lv_if_eq (tgt := 55) hx hb dX4_walkerItem_51 (by decide) (fun hc35 => ?_) (fun hc35 => ?_)
      · replace he := i_t hc35 he
        refine lv_aload_n hx hb dX4_walkerItem_55 rfl (lv_at hl 0 rfl) ?_
        refine lv_iload_n hx hb dX4_walkerItem_56 rfl (lv_at hl 1 rfl) ?_
        refine lv_aload_n hx hb dX4_walkerItem_57 rfl (lv_at hl 0 rfl) ?_
        refine rgetf C hd (by decide) cM0 rfl tgX4 12 (by decide) tw713 rfl dX4_walkerItem_58 ?_
        replace he := b_some he
        obtain ⟨⟨r36, V36⟩, h36, he⟩ := he
        refine kVI C hd hl.1 kw_X4_80 (by decide) cM0 rfl (c_X4_adds l G hJ h36) ⟨Nat.le_of_ble_eq_true rfl, Nat.le_of_ble_eq_true rfl⟩ rfl (rest := []) rfl (Nat.le_of_ble_eq_true rfl) dX4_walkerItem_61 (fun H locs hd => ?_)
        refine lv_istore_n (lv' := [(2, .int _), (0, .ref _), (1, .int _)]) hx hb dX4_walkerItem_64 rfl hl (by decide) rfl (fun ls hl => ?_)
        refine lv_aload_n hx hb dX4_walkerItem_65 rfl (lv_at hl 1 rfl) ?_
        refine lv_ldc2 hx hb hown (hts _ tw1084) dX4_walkerItem_66 ?_
        refine lv_iload_n hx hb dX4_walkerItem_69 rfl (lv_at hl 0 rfl) ?_
        refine lv_iconst (v := 3) hx hb dX4_walkerItem_70 (by decide) ?_
        replace he := b_some he
        obtain ⟨⟨r37, V37⟩, h37, he⟩ := he
        refine kSI C hd hl.1 kw_X4_54 (c_X4_spotOf l G hJ h37) ⟨Nat.le_of_ble_eq_true rfl, Nat.le_of_ble_eq_true rfl⟩ rfl (rest := [.long _, .ref _]) rfl (Nat.le_of_ble_eq_true rfl) dX4_walkerItem_71 (fun H locs hd => ?_)
        refine lv_iconst (v := 3) hx hb dX4_walkerItem_74 (by decide) ?_
        replace he := b_some he
        obtain ⟨V38, h38, he⟩ := he
        refine kVV C hd hl.1 kw_X4_270 (by decide) cM0 rfl (c_X4_partItem l G hJ h38) ⟨Nat.le_of_ble_eq_true rfl, Nat.le_of_ble_eq_true rfl⟩ rfl (rest := []) rfl (Nat.le_of_ble_eq_true rfl) dX4_walkerItem_75 (fun H locs hd => ?_)
        refine lv_aload_n hx hb dX4_walkerItem_78 rfl (lv_at hl 1 rfl) ?_
        refine lv_ldc2 hx hb hown (hts _ tw1089) dX4_walkerItem_79 ?_
        refine lv_iload_n hx hb dX4_walkerItem_82 rfl (lv_at hl 0 rfl) ?_
        refine lv_iconst (v := 4) hx hb dX4_walkerItem_83 (by decide) ?_
        replace he := b_some he
        obtain ⟨⟨r39, V39⟩, h39, he⟩ := he
        refine kSI C hd hl.1 kw_X4_54 (c_X4_spotOf l G hJ h39) ⟨Nat.le_of_ble_eq_true rfl, Nat.le_of_ble_eq_true rfl⟩ rfl (rest := [.long _, .ref _]) rfl (Nat.le_of_ble_eq_true rfl) dX4_walkerItem_84 (fun H locs hd => ?_)
        refine lv_bipush (v := 15) hx hb dX4_walkerItem_87 (by decide) ?_
        replace he := b_some he
        obtain ⟨V40, h40, he⟩ := he
        refine kVV C hd hl.1 kw_X4_270 (by decide) cM0 rfl (c_X4_partItem l G hJ h40) ⟨Nat.le_of_ble_eq_true rfl, Nat.le_of_ble_eq_true rfl⟩ rfl (rest := []) rfl (Nat.le_of_ble_eq_true rfl) dX4_walkerItem_89 (fun H locs hd => ?_)
        exact retVe (cf := (cM G)) C hr hlk hd he dX4_walkerItem_92
      · replace he := i_f hc35 he
        exact retVe (cf := (cM G)) C hr hlk hd he dX4_walkerItem_54
set_option maxRecDepth 100000 in
set_option maxHeartbeats 4000000 in
theorem c_X4_fogItem (l : Launch) (G : Gd) (hJ : Inj 11 G.2.2) {a1 : Int32} {V V' : VV} (he : f_X4_fogItem a1 V = some V') : MV l 11 G XM yX4_fogItem cX4_fogItem 5 5 113 [.ref (G.2.2 0), .int a1] (cM G V) (cM G V') := by
  refine walk_of (own := RX4) (by decide) rfl hJ (xs_M G) (Nat.le_of_ble_eq_true rfl) ?_
  intro p e s m below meth c C hr hlk ls hl hd
  have hl : lv_has ls 5 [(0, .ref (G.2.2 0)), (1, .int a1)] := hl
  obtain ⟨⟨hx, hb, hml, hown, hts⟩, -⟩ := id C
  have L53 : ∀ (fuel : Nat) (x1 : Int32) (x3 : Int32) (x4 : Int32) (V : VV) (H : Heap) (locs : List Loc) (ls : Array Slot), lv_has ls 5 [(0, .ref (G.2.2 0)), (1, .int x1), (3, .int x3), (4, .int x4)] → Dy 11 G (cM G V) s H locs → f_X4_fogItem_L53 fuel x1 x3 x4 V = some V' → W p l e (rmF 5 113) s m ([.ref (G.2.2 0), .int a1] : List Value).toArray below meth c H locs 0 0 (MQ below (QV 11 G (cM G V')) ([.ref (G.2.2 0), .int a1] : List Value).toArray s 0 0 (inA 11 G.2.2)) (F0 m 53 ls []) := by
    intro fuel
    induction fuel with
    | zero => intro x1 x3 x4 V H locs ls hl hd he; simp [f_X4_fogItem_L53] at he
    | succ n ih53 =>
      intro x1 x3 x4 V H locs ls hl hd he
      rw [f_X4_fogItem_L53] at he
      refine lv_iload hx hb dX4_fogItem_53 (lv_at hl 3 rfl) ?_
      refine lv_iload_n hx hb dX4_fogItem_55 rfl (lv_at hl 2 rfl) ?_
      refine lv_icmp_gt (tgt := 109) hx hb dX4_fogItem_56 (by decide) (fun hc5 => ?_) (fun hc5 => ?_)
      · replace he := i_t hc5 he
        exact retVe (cf := (cM G)) C hr hlk hd he dX4_fogItem_109
      · replace he := i_f hc5 he
        refine lv_aload_n hx hb dX4_fogItem_59 rfl (lv_at hl 0 rfl) ?_
        refine rgetf C hd (by decide) cM0 rfl tgX4 13 (by decide) tw714 rfl dX4_fogItem_60 ?_
        refine lv_if_ne (tgt := 109) hx hb dX4_fogItem_63 (by decide) (fun hc6 => ?_) (fun hc6 => ?_)
        · replace he := i_f hc6 he
          exact retVe (cf := (cM G)) C hr hlk hd he dX4_fogItem_109
        · replace he := i_t hc6 he
          refine lv_aload_n hx hb dX4_fogItem_66 rfl (lv_at hl 0 rfl) ?_
          refine rgetf C hd (by decide) cM0 rfl tgX4 0 (by decide) tw701 rfl dX4_fogItem_67 ?_
          refine lv_iconst (v := 2) hx hb dX4_fogItem_70 (by decide) ?_
          refine lv_iload_n hx hb dX4_fogItem_71 rfl (lv_at hl 1 rfl) ?_
          refine lv_if_eq (tgt := 89) hx hb dX4_fogItem_72 (by decide) (fun hc7 => ?_) (fun hc7 => ?_)
          · replace he := i_t hc7 he
            refine lv_aload_n hx hb dX4_fogItem_89 rfl (lv_at hl 0 rfl) ?_
            refine rgetf C hd (by decide) cM0 rfl tgX4 0 (by decide) tw701 rfl dX4_fogItem_90 ?_
            refine lv_iconst (v := 2) hx hb dX4_fogItem_93 (by decide) ?_
            replace he := g_some he
            obtain ⟨hi8, he⟩ := he
            refine riald C hd (by decide) cMa1 hi8 dX4_fogItem_94 ?_
            refine lv_iconst (v := 1) hx hb dX4_fogItem_95 (by decide) ?_
            refine lv_iload hx hb dX4_fogItem_96 (lv_at hl 3 rfl) ?_
            refine lv_ishl hx hb dX4_fogItem_98 ?_
            refine lv_iconst (v := (-1)) hx hb dX4_fogItem_99 (by decide) ?_
            refine lv_ixor hx hb dX4_fogItem_100 ?_
            refine lv_iand hx hb dX4_fogItem_101 ?_
            replace he := g_some he
            obtain ⟨hi9, he⟩ := he
            replace he := bv_ex he
            obtain ⟨V10, e10, he⟩ := he
            refine riast (cell' := (cM G) V10) C hd (by decide) cMa1 hi9 (cMaw1 e10) (cM_ne e10) dX4_fogItem_102 (fun H locs hd => ?_)
            refine lv_iinc (v := _ + 1) (lv' := [(4, .int _), (0, .ref _), (1, .int _), (3, .int _)]) hx hb dX4_fogItem_103 hl (k := 3) rfl rfl (by decide) rfl (fun ls hl => ?_)
            refine lv_goto (tgt := 53) hx hb dX4_fogItem_106 (by decide) ?_
            exact ih53 _ _ _ _ _ _ _ (lv_sub hl [1, 2, 3, 0] rfl) hd he
          · replace he := i_f hc7 he
            refine lv_aload_n hx hb dX4_fogItem_75 rfl (lv_at hl 0 rfl) ?_
            refine rgetf C hd (by decide) cM0 rfl tgX4 0 (by decide) tw701 rfl dX4_fogItem_76 ?_
            refine lv_iconst (v := 2) hx hb dX4_fogItem_79 (by decide) ?_
            replace he := g_some he
            obtain ⟨hi11, he⟩ := he
            refine riald C hd (by decide) cMa1 hi11 dX4_fogItem_80 ?_
            refine lv_iconst (v := 1) hx hb dX4_fogItem_81 (by decide) ?_
            refine lv_iload hx hb dX4_fogItem_82 (lv_at hl 3 rfl) ?_
            refine lv_ishl hx hb dX4_fogItem_84 ?_
            refine lv_ior hx hb dX4_fogItem_85 ?_
            refine lv_goto (tgt := 102) hx hb dX4_fogItem_86 (by decide) ?_
            replace he := g_some he
            obtain ⟨hi12, he⟩ := he
            replace he := bv_ex he
            obtain ⟨V13, e13, he⟩ := he
            refine riast (cell' := (cM G) V13) C hd (by decide) cMa1 hi12 (cMaw1 e13) (cM_ne e13) dX4_fogItem_102 (fun H locs hd => ?_)
            refine lv_iinc (v := _ + 1) (lv' := [(4, .int _), (0, .ref _), (1, .int _), (3, .int _)]) hx hb dX4_fogItem_103 hl (k := 3) rfl rfl (by decide) rfl (fun ls hl => ?_)
            refine lv_goto (tgt := 53) hx hb dX4_fogItem_106 (by decide) ?_
            exact ih53 _ _ _ _ _ _ _ (lv_sub hl [1, 2, 3, 0] rfl) hd he
  unfold f_X4_fogItem at he
  refine lv_aload_n hx hb dX4_fogItem_0 rfl (lv_at hl 0 rfl) ?_
  refine lv_iconst (v := 1) hx hb dX4_fogItem_1 (by decide) ?_
  replace he := b_some he
  obtain ⟨V1, h1, he⟩ := he
  refine kVV C hd hl.1 kw_X4_243 (by decide) cM0 rfl (c_X4_must l G hJ h1) ⟨Nat.le_of_ble_eq_true rfl, Nat.le_of_ble_eq_true rfl⟩ rfl (rest := []) rfl (Nat.le_of_ble_eq_true rfl) dX4_fogItem_2 (fun H locs hd => ?_)
  refine lv_aload_n hx hb dX4_fogItem_5 rfl (lv_at hl 0 rfl) ?_
  refine lv_iconst (v := 0) hx hb dX4_fogItem_6 (by decide) ?_
  refine lv_bipush (v := 23) hx hb dX4_fogItem_7 (by decide) ?_
  replace he := b_some he
  obtain ⟨V2, h2, he⟩ := he
  refine kVV C hd hl.1 kw_X4_263 (by decide) cM0 rfl (c_X4_number l G hJ h2) ⟨Nat.le_of_ble_eq_true rfl, Nat.le_of_ble_eq_true rfl⟩ rfl (rest := []) rfl (Nat.le_of_ble_eq_true rfl) dX4_fogItem_9 (fun H locs hd => ?_)
  refine lv_aload_n hx hb dX4_fogItem_12 rfl (lv_at hl 0 rfl) ?_
  refine rgetf C hd (by decide) cM0 rfl tgX4 12 (by decide) tw713 rfl dX4_fogItem_13 ?_
  refine lv_istore_n (lv' := [(2, .int _), (0, .ref _), (1, .int _)]) hx hb dX4_fogItem_16 rfl hl (by decide) rfl (fun ls hl => ?_)
  refine lv_aload_n hx hb dX4_fogItem_17 rfl (lv_at hl 1 rfl) ?_
  refine rgetf C hd (by decide) cM0 rfl tgX4 12 (by decide) tw713 rfl dX4_fogItem_18 ?_
  refine lv_istore_n (lv' := [(3, .int _), (2, .int _), (0, .ref _), (1, .int _)]) hx hb dX4_fogItem_21 rfl hl (by decide) rfl (fun ls hl => ?_)
  refine lv_aload_n hx hb dX4_fogItem_22 rfl (lv_at hl 2 rfl) ?_
  replace he := b_some he
  obtain ⟨⟨r3, V3⟩, h3, he⟩ := he
  refine kVJ C hd hl.1 kw_X4_247 (by decide) cM0 rfl (c_X4_word l G hJ h3) ⟨Nat.le_of_ble_eq_true rfl, Nat.le_of_ble_eq_true rfl⟩ rfl (rest := []) rfl (Nat.le_of_ble_eq_true rfl) dX4_fogItem_23 (fun H locs hd => ?_)
  refine lv_ldc2 hx hb hown (hts _ tw1095) dX4_fogItem_26 ?_
  refine W.lcmp hx hb dX4_fogItem_29 ?_
  refine lv_if_ne (tgt := 50) hx hb dX4_fogItem_30 (by decide) (fun hc4 => ?_) (fun hc4 => ?_)
  · replace he := i_f hc4 he
    refine lv_iload_n hx hb dX4_fogItem_50 rfl (lv_at hl 1 rfl) ?_
    refine lv_istore (lv' := [(4, .int _), (3, .int _), (2, .int _), (0, .ref _), (1, .int _)]) hx hb dX4_fogItem_51 hl (by decide) rfl (fun ls hl => ?_)
    exact L53 200 _ _ _ _ _ _ _ (lv_sub hl [3, 4, 1, 0] rfl) hd he
  · replace he := i_t hc4 he
    refine lv_aload_n hx hb dX4_fogItem_33 rfl (lv_at hl 2 rfl) ?_
    refine lv_iconst (v := 1) hx hb dX4_fogItem_34 (by decide) ?_
    replace he := b_some he
    obtain ⟨V14, h14, he⟩ := he
    refine kVV C hd hl.1 kw_X4_243 (by decide) cM0 rfl (c_X4_must l G hJ h14) ⟨Nat.le_of_ble_eq_true rfl, Nat.le_of_ble_eq_true rfl⟩ rfl (rest := []) rfl (Nat.le_of_ble_eq_true rfl) dX4_fogItem_35 (fun H locs hd => ?_)
    refine lv_aload_n hx hb dX4_fogItem_38 rfl (lv_at hl 2 rfl) ?_
    refine lv_iload_n hx hb dX4_fogItem_39 rfl (lv_at hl 1 rfl) ?_
    refine lv_bipush (v := 23) hx hb dX4_fogItem_40 (by decide) ?_
    replace he := b_some he
    obtain ⟨V15, h15, he⟩ := he
    refine kVV C hd hl.1 kw_X4_263 (by decide) cM0 rfl (c_X4_number l G hJ h15) ⟨Nat.le_of_ble_eq_true rfl, Nat.le_of_ble_eq_true rfl⟩ rfl (rest := []) rfl (Nat.le_of_ble_eq_true rfl) dX4_fogItem_42 (fun H locs hd => ?_)
    refine lv_aload_n hx hb dX4_fogItem_45 rfl (lv_at hl 2 rfl) ?_
    refine rgetf C hd (by decide) cM0 rfl tgX4 12 (by decide) tw713 rfl dX4_fogItem_46 ?_
    refine lv_istore_n (lv' := [(3, .int _), (2, .int _), (0, .ref _), (1, .int _)]) hx hb dX4_fogItem_49 rfl hl (by decide) rfl (fun ls hl => ?_)
    refine lv_iload_n hx hb dX4_fogItem_50 rfl (lv_at hl 1 rfl) ?_
    refine lv_istore (lv' := [(4, .int _), (3, .int _), (2, .int _), (0, .ref _), (1, .int _)]) hx hb dX4_fogItem_51 hl (by decide) rfl (fun ls hl => ?_)
    exact L53 200 _ _ _ _ _ _ _ (lv_sub hl [3, 4, 1, 0] rfl) hd he
set_option maxRecDepth 100000 in
set_option maxHeartbeats 4000000 in
theorem c_X4_item (l : Launch) (G : Gd) (hJ : Inj 11 G.2.2) {V V' : VV} (he : f_X4_item V = some V') : MV l 11 G XM yX4_item cX4_item 5 7 159 [.ref (G.2.2 0)] (cM G V) (cM G V') := by
  refine walk_of (own := RX4) (by decide) rfl hJ (xs_M G) (Nat.le_of_ble_eq_true rfl) ?_
  intro p e s m below meth c C hr hlk ls hl hd
  have hl : lv_has ls 5 [(0, .ref (G.2.2 0))] := hl
  obtain ⟨⟨hx, hb, hml, hown, hts⟩, -⟩ := id C
  unfold f_X4_item at he
  refine lv_aload_n hx hb dX4_item_0 rfl (lv_at hl 0 rfl) ?_
  replace he := b_some he
  obtain ⟨⟨r1, V1⟩, h1, he⟩ := he
  refine kVI C hd hl.1 kw_X4_278 (by decide) cM0 rfl (c_X4_kindHere l G hJ h1) ⟨Nat.le_of_ble_eq_true rfl, Nat.le_of_ble_eq_true rfl⟩ rfl (rest := []) rfl (Nat.le_of_ble_eq_true rfl) dX4_item_1 (fun H locs hd => ?_)
  refine lv_istore_n (lv' := [(1, .int _), (0, .ref _)]) hx hb dX4_item_4 rfl hl (by decide) rfl (fun ls hl => ?_)
  refine lv_aload_n hx hb dX4_item_5 rfl (lv_at hl 1 rfl) ?_
  replace he := b_some he
  obtain ⟨⟨r2, V2⟩, h2, he⟩ := he
  refine kVJ C hd hl.1 kw_X4_247 (by decide) cM0 rfl (c_X4_word l G hJ h2) ⟨Nat.le_of_ble_eq_true rfl, Nat.le_of_ble_eq_true rfl⟩ rfl (rest := []) rfl (Nat.le_of_ble_eq_true rfl) dX4_item_6 (fun H locs hd => ?_)
  refine lv_lstore_n (lv' := [(2, .long _), (1, .int _), (0, .ref _)]) hx hb dX4_item_9 rfl hl (by decide) rfl (fun ls hl => ?_)
  refine lv_lload_n hx hb dX4_item_10 rfl (lv_at hl 0 rfl) ?_
  refine lv_ldc2 hx hb hown (hts _ tw1070) dX4_item_11 ?_
  refine W.lcmp hx hb dX4_item_14 ?_
  refine lv_if_ne (tgt := 22) hx hb dX4_item_15 (by decide) (fun hc3 => ?_) (fun hc3 => ?_)
  · replace he := i_f hc3 he
    refine lv_iconst (v := 0) hx hb dX4_item_22 (by decide) ?_
    refine lv_istore (lv' := [(4, .int _), (2, .long _), (1, .int _), (0, .ref _)]) hx hb dX4_item_23 hl (by decide) rfl (fun ls hl => ?_)
    refine lv_iload_n hx hb dX4_item_25 rfl (lv_at hl 2 rfl) ?_
    refine lv_if_lt (tgt := 37) hx hb dX4_item_26 (by decide) (fun hc4 => ?_) (fun hc4 => ?_)
    · replace he := i_t hc4 he
      refine lv_iload hx hb dX4_item_37 (lv_at hl 0 rfl) ?_
      refine lv_if_ne (tgt := 50) hx hb dX4_item_39 (by decide) (fun hc5 => ?_) (fun hc5 => ?_)
      · exact absurd hc5 (by decide)
      · refine lv_lload_n hx hb dX4_item_42 rfl (lv_at hl 1 rfl) ?_
        refine lv_ldc2 hx hb hown (hts _ tw1090) dX4_item_43 ?_
        refine W.lcmp hx hb dX4_item_46 ?_
        refine lv_if_ne (tgt := 59) hx hb dX4_item_47 (by decide) (fun hc6 => ?_) (fun hc6 => ?_)
        · replace he := i_f hc6 he
          refine lv_aload_n hx hb dX4_item_59 rfl (lv_at hl 3 rfl) ?_
          refine lv_lload_n hx hb dX4_item_60 rfl (lv_at hl 1 rfl) ?_
          refine lv_ldc2 hx hb hown (hts _ tw1096) dX4_item_61 ?_
          refine W.lcmp hx hb dX4_item_64 ?_
          refine lv_if_ne (tgt := 72) hx hb dX4_item_65 (by decide) (fun hc7 => ?_) (fun hc7 => ?_)
          · replace he := i_f hc7 he
            refine lv_iconst (v := 0) hx hb dX4_item_72 (by decide) ?_
            replace he := b_some he
            obtain ⟨V8, h8, he⟩ := he
            refine kVV C hd hl.1 kw_X4_243 (by decide) cM0 rfl (c_X4_must l G hJ h8) ⟨Nat.le_of_ble_eq_true rfl, Nat.le_of_ble_eq_true rfl⟩ rfl (rest := []) rfl (Nat.le_of_ble_eq_true rfl) dX4_item_73 (fun H locs hd => ?_)
            refine lv_aload_n hx hb dX4_item_76 rfl (lv_at hl 3 rfl) ?_
            refine lv_iconst (v := 0) hx hb dX4_item_77 (by decide) ?_
            refine lv_bipush (v := 35) hx hb dX4_item_78 (by decide) ?_
            replace he := b_some he
            obtain ⟨V9, h9, he⟩ := he
            refine kVV C hd hl.1 kw_X4_263 (by decide) cM0 rfl (c_X4_number l G hJ h9) ⟨Nat.le_of_ble_eq_true rfl, Nat.le_of_ble_eq_true rfl⟩ rfl (rest := []) rfl (Nat.le_of_ble_eq_true rfl) dX4_item_80 (fun H locs hd => ?_)
            refine lv_aload_n hx hb dX4_item_83 rfl (lv_at hl 3 rfl) ?_
            refine rgetf C hd (by decide) cM0 rfl tgX4 0 (by decide) tw701 rfl dX4_item_84 ?_
            refine lv_iconst (v := 3) hx hb dX4_item_87 (by decide) ?_
            refine lv_aload_n hx hb dX4_item_88 rfl (lv_at hl 3 rfl) ?_
            refine rgetf C hd (by decide) cM0 rfl tgX4 13 (by decide) tw714 rfl dX4_item_89 ?_
            refine lv_if_eq (tgt := 104) hx hb dX4_item_92 (by decide) (fun hc10 => ?_) (fun hc10 => ?_)
            · replace he := i_t hc10 he
              refine lv_aload_n hx hb dX4_item_104 rfl (lv_at hl 3 rfl) ?_
              refine rgetf C hd (by decide) cM0 rfl tgX4 12 (by decide) tw713 rfl dX4_item_105 ?_
              replace he := g_some he
              obtain ⟨hi11, he⟩ := he
              replace he := bv_ex he
              obtain ⟨V12, e12, he⟩ := he
              refine riast (cell' := (cM G) V12) C hd (by decide) cMa1 hi11 (cMaw1 e12) (cM_ne e12) dX4_item_108 (fun H locs hd => ?_)
              exact retVe (cf := (cM G)) C hr hlk hd he dX4_item_109
            · replace he := i_f hc10 he
              refine lv_aload_n hx hb dX4_item_95 rfl (lv_at hl 3 rfl) ?_
              refine rgetf C hd (by decide) cM0 rfl tgX4 0 (by decide) tw701 rfl dX4_item_96 ?_
              refine lv_iconst (v := 3) hx hb dX4_item_99 (by decide) ?_
              replace he := g_some he
              obtain ⟨hi13, he⟩ := he
              refine riald C hd (by decide) cMa1 hi13 dX4_item_100 ?_
              refine lv_goto (tgt := 108) hx hb dX4_item_101 (by decide) ?_
              replace he := g_some he
              obtain ⟨hi14, he⟩ := he
              replace he := bv_ex he
              obtain ⟨V15, e15, he⟩ := he
              refine riast (cell' := (cM G) V15) C hd (by decide) cMa1 hi14 (cMaw1 e15) (cM_ne e15) dX4_item_108 (fun H locs hd => ?_)
              exact retVe (cf := (cM G)) C hr hlk hd he dX4_item_109
          · replace he := i_t hc7 he
            refine lv_iconst (v := 1) hx hb dX4_item_68 (by decide) ?_
            refine lv_goto (tgt := 73) hx hb dX4_item_69 (by decide) ?_
            replace he := b_some he
            obtain ⟨V16, h16, he⟩ := he
            refine kVV C hd hl.1 kw_X4_243 (by decide) cM0 rfl (c_X4_must l G hJ h16) ⟨Nat.le_of_ble_eq_true rfl, Nat.le_of_ble_eq_true rfl⟩ rfl (rest := []) rfl (Nat.le_of_ble_eq_true rfl) dX4_item_73 (fun H locs hd => ?_)
            refine lv_aload_n hx hb dX4_item_76 rfl (lv_at hl 3 rfl) ?_
            refine lv_iconst (v := 0) hx hb dX4_item_77 (by decide) ?_
            refine lv_bipush (v := 35) hx hb dX4_item_78 (by decide) ?_
            replace he := b_some he
            obtain ⟨V17, h17, he⟩ := he
            refine kVV C hd hl.1 kw_X4_263 (by decide) cM0 rfl (c_X4_number l G hJ h17) ⟨Nat.le_of_ble_eq_true rfl, Nat.le_of_ble_eq_true rfl⟩ rfl (rest := []) rfl (Nat.le_of_ble_eq_true rfl) dX4_item_80 (fun H locs hd => ?_)
            refine lv_aload_n hx hb dX4_item_83 rfl (lv_at hl 3 rfl) ?_
            refine rgetf C hd (by decide) cM0 rfl tgX4 0 (by decide) tw701 rfl dX4_item_84 ?_
            refine lv_iconst (v := 3) hx hb dX4_item_87 (by decide) ?_
            refine lv_aload_n hx hb dX4_item_88 rfl (lv_at hl 3 rfl) ?_
            refine rgetf C hd (by decide) cM0 rfl tgX4 13 (by decide) tw714 rfl dX4_item_89 ?_
            refine lv_if_eq (tgt := 104) hx hb dX4_item_92 (by decide) (fun hc18 => ?_) (fun hc18 => ?_)
            · replace he := i_t hc18 he
              refine lv_aload_n hx hb dX4_item_104 rfl (lv_at hl 3 rfl) ?_
              refine rgetf C hd (by decide) cM0 rfl tgX4 12 (by decide) tw713 rfl dX4_item_105 ?_
              replace he := g_some he
              obtain ⟨hi19, he⟩ := he
              replace he := bv_ex he
              obtain ⟨V20, e20, he⟩ := he
              refine riast (cell' := (cM G) V20) C hd (by decide) cMa1 hi19 (cMaw1 e20) (cM_ne e20) dX4_item_108 (fun H locs hd => ?_)
              exact retVe (cf := (cM G)) C hr hlk hd he dX4_item_109
            · replace he := i_f hc18 he
              refine lv_aload_n hx hb dX4_item_95 rfl (lv_at hl 3 rfl) ?_
              refine rgetf C hd (by decide) cM0 rfl tgX4 0 (by decide) tw701 rfl dX4_item_96 ?_
              refine lv_iconst (v := 3) hx hb dX4_item_99 (by decide) ?_
              replace he := g_some he
              obtain ⟨hi21, he⟩ := he
              refine riald C hd (by decide) cMa1 hi21 dX4_item_100 ?_
              refine lv_goto (tgt := 108) hx hb dX4_item_101 (by decide) ?_
              replace he := g_some he
              obtain ⟨hi22, he⟩ := he
              replace he := bv_ex he
              obtain ⟨V23, e23, he⟩ := he
              refine riast (cell' := (cM G) V23) C hd (by decide) cMa1 hi22 (cMaw1 e23) (cM_ne e23) dX4_item_108 (fun H locs hd => ?_)
              exact retVe (cf := (cM G)) C hr hlk hd he dX4_item_109
        · replace he := i_t hc6 he
          refine lv_aload_n hx hb dX4_item_50 rfl (lv_at hl 3 rfl) ?_
          refine lv_iload hx hb dX4_item_51 (lv_at hl 0 rfl) ?_
          replace he := b_some he
          obtain ⟨V24, h24, he⟩ := he
          refine kVV C hd hl.1 kw_X4_288 (by decide) cM0 rfl (c_X4_fogItem l G hJ h24) ⟨Nat.le_of_ble_eq_true rfl, Nat.le_of_ble_eq_true rfl⟩ rfl (rest := []) rfl (Nat.le_of_ble_eq_true rfl) dX4_item_53 (fun H locs hd => ?_)
          refine lv_goto (tgt := 109) hx hb dX4_item_56 (by decide) ?_
          exact retVe (cf := (cM G)) C hr hlk hd he dX4_item_109
    · replace he := i_f hc4 he
      refine lv_aload_n hx hb dX4_item_29 rfl (lv_at hl 3 rfl) ?_
      refine lv_iload_n hx hb dX4_item_30 rfl (lv_at hl 2 rfl) ?_
      replace he := b_some he
      obtain ⟨V25, h25, he⟩ := he
      refine kVV C hd hl.1 kw_X4_283 (by decide) cM0 rfl (c_X4_walkerItem l G hJ h25) ⟨Nat.le_of_ble_eq_true rfl, Nat.le_of_ble_eq_true rfl⟩ rfl (rest := []) rfl (Nat.le_of_ble_eq_true rfl) dX4_item_31 (fun H locs hd => ?_)
      refine lv_goto (tgt := 109) hx hb dX4_item_34 (by decide) ?_
      exact retVe (cf := (cM G)) C hr hlk hd he dX4_item_109
  · replace he := i_t hc3 he
    refine lv_iconst (v := 1) hx hb dX4_item_18 (by decide) ?_
    refine lv_goto (tgt := 23) hx hb dX4_item_19 (by decide) ?_
    refine lv_istore (lv' := [(4, .int _), (2, .long _), (1, .int _), (0, .ref _)]) hx hb dX4_item_23 hl (by decide) rfl (fun ls hl => ?_)
    refine lv_iload_n hx hb dX4_item_25 rfl (lv_at hl 2 rfl) ?_
    refine lv_if_lt (tgt := 37) hx hb dX4_item_26 (by decide) (fun hc26 => ?_) (fun hc26 => ?_)
    · replace he := i_t hc26 he
      refine lv_iload hx hb dX4_item_37 (lv_at hl 0 rfl) ?_
      refine lv_if_ne (tgt := 50) hx hb dX4_item_39 (by decide) (fun hc27 => ?_) (fun hc27 => ?_)
      · refine lv_aload_n hx hb dX4_item_50 rfl (lv_at hl 3 rfl) ?_
        refine lv_iload hx hb dX4_item_51 (lv_at hl 0 rfl) ?_
        replace he := b_some he
        obtain ⟨V28, h28, he⟩ := he
        refine kVV C hd hl.1 kw_X4_288 (by decide) cM0 rfl (c_X4_fogItem l G hJ h28) ⟨Nat.le_of_ble_eq_true rfl, Nat.le_of_ble_eq_true rfl⟩ rfl (rest := []) rfl (Nat.le_of_ble_eq_true rfl) dX4_item_53 (fun H locs hd => ?_)
        refine lv_goto (tgt := 109) hx hb dX4_item_56 (by decide) ?_
        exact retVe (cf := (cM G)) C hr hlk hd he dX4_item_109
      · exact absurd hc27 (by decide)
    · replace he := i_f hc26 he
      refine lv_aload_n hx hb dX4_item_29 rfl (lv_at hl 3 rfl) ?_
      refine lv_iload_n hx hb dX4_item_30 rfl (lv_at hl 2 rfl) ?_
      replace he := b_some he
      obtain ⟨V29, h29, he⟩ := he
      refine kVV C hd hl.1 kw_X4_283 (by decide) cM0 rfl (c_X4_walkerItem l G hJ h29) ⟨Nat.le_of_ble_eq_true rfl, Nat.le_of_ble_eq_true rfl⟩ rfl (rest := []) rfl (Nat.le_of_ble_eq_true rfl) dX4_item_31 (fun H locs hd => ?_)
      refine lv_goto (tgt := 109) hx hb dX4_item_34 (by decide) ?_
      exact retVe (cf := (cM G)) C hr hlk hd he dX4_item_109
set_option maxRecDepth 100000 in
set_option maxHeartbeats 4000000 in
theorem c_X4_moor (l : Launch) (G : Gd) (hJ : Inj 11 G.2.2) {V V' : VV} {r : Int32} (he : f_X4_moor V = some (r, V')) : MI l 11 G XM yX4_moor cX4_moor 2 8 183 [.ref (G.2.2 0)] (cM G V) (cM G V') r := by
  refine walk_of (own := RX4) (by decide) rfl hJ (xs_M G) (Nat.le_of_ble_eq_true rfl) ?_
  intro p e s m below meth c C hr hlk ls hl hd
  have hl : lv_has ls 2 [(0, .ref (G.2.2 0))] := hl
  obtain ⟨⟨hx, hb, hml, hown, hts⟩, -⟩ := id C
  have L24 : ∀ (fuel : Nat) (x1 : Int32) (V : VV) (H : Heap) (locs : List Loc) (ls : Array Slot), lv_has ls 2 [(0, .ref (G.2.2 0)), (1, .int x1)] → Dy 11 G (cM G V) s H locs → f_X4_moor_L24 fuel x1 V = some (r, V') → W p l e (rmF 8 183) s m ([.ref (G.2.2 0)] : List Value).toArray below meth c H locs 0 0 (MQ below (QI 11 G (cM G V') (fun r' => r' = r)) ([.ref (G.2.2 0)] : List Value).toArray s 0 0 (inA 11 G.2.2)) (F0 m 24 ls []) := by
    intro fuel
    induction fuel with
    | zero => intro x1 V H locs ls hl hd he; simp [f_X4_moor_L24] at he
    | succ n ih24 =>
      intro x1 V H locs ls hl hd he
      rw [f_X4_moor_L24] at he
      refine lv_aload_n hx hb dX4_moor_24 rfl (lv_at hl 0 rfl) ?_
      refine rgetf C hd (by decide) cM0 rfl tgX4 13 (by decide) tw714 rfl dX4_moor_25 ?_
      refine lv_if_ne (tgt := 59) hx hb dX4_moor_28 (by decide) (fun hc6 => ?_) (fun hc6 => ?_)
      · replace he := i_f hc6 he
        refine lv_aload_n hx hb dX4_moor_59 rfl (lv_at hl 0 rfl) ?_
        refine lv_aload_n hx hb dX4_moor_60 rfl (lv_at hl 0 rfl) ?_
        refine rgetf C hd (by decide) cM0 rfl tgX4 13 (by decide) tw714 rfl dX4_moor_61 ?_
        refine lv_if_ne (tgt := 78) hx hb dX4_moor_64 (by decide) (fun hc7 => ?_) (fun hc7 => ?_)
        · replace he := i_f hc7 he
          refine lv_iconst (v := 1) hx hb dX4_moor_78 (by decide) ?_
          refine lv_goto (tgt := 83) hx hb dX4_moor_79 (by decide) ?_
          replace he := bv_ex he
          obtain ⟨V8, e8, he⟩ := he
          refine rputf (cell' := (cM G) V8) C hd (by decide) cM0 rfl tgX4 tyX4 tyX4_ok nmX4 13 (by decide) tw714 rfl (tyX4_ok 13 (by decide)) rfl rfl (Nat.le_of_ble_eq_true rfl) (cM0_w (by decide) e8) (cM_ne e8) dX4_moor_83 (fun H locs hd => ?_)
          refine lv_aload_n hx hb dX4_moor_86 rfl (lv_at hl 0 rfl) ?_
          refine rgetf C hd (by decide) cM0 rfl tgX4 13 (by decide) tw714 rfl dX4_moor_87 ?_
          refine lv_if_eq (tgt := 97) hx hb dX4_moor_90 (by decide) (fun hc9 => ?_) (fun hc9 => ?_)
          · replace he := i_t hc9 he
            refine lv_aload_n hx hb dX4_moor_97 rfl (lv_at hl 0 rfl) ?_
            refine lv_iconst (v := 0) hx hb dX4_moor_98 (by decide) ?_
            replace he := bv_ex he
            obtain ⟨V10, e10, he⟩ := he
            refine rputf (cell' := (cM G) V10) C hd (by decide) cM0 rfl tgX4 tyX4 tyX4_ok nmX4 9 (by decide) tw710 rfl (tyX4_ok 9 (by decide)) rfl rfl (Nat.le_of_ble_eq_true rfl) (cM0_w (by decide) e10) (cM_ne e10) dX4_moor_99 (fun H locs hd => ?_)
            refine lv_aload_n hx hb dX4_moor_102 rfl (lv_at hl 0 rfl) ?_
            refine rgetf C hd (by decide) cM0 rfl tgX4 13 (by decide) tw714 rfl dX4_moor_103 ?_
            refine lv_if_eq (tgt := 118) hx hb dX4_moor_106 (by decide) (fun hc11 => ?_) (fun hc11 => ?_)
            · replace he := i_t hc11 he
              refine lv_iload_n hx hb dX4_moor_118 rfl (lv_at hl 1 rfl) ?_
              exact retIe (cf := (cM G)) C hr hlk hd he dX4_moor_119
            · replace he := i_f hc11 he
              refine lv_iconst (v := (-1)) hx hb dX4_moor_109 (by decide) ?_
              refine lv_aload_n hx hb dX4_moor_110 rfl (lv_at hl 0 rfl) ?_
              refine rgetf C hd (by decide) cM0 rfl tgX4 10 (by decide) tw711 rfl dX4_moor_111 ?_
              refine lv_isub hx hb dX4_moor_114 ?_
              refine lv_goto (tgt := 119) hx hb dX4_moor_115 (by decide) ?_
              exact retIe (cf := (cM G)) C hr hlk hd he dX4_moor_119
          · replace he := i_f hc9 he
            refine lv_aload_n hx hb dX4_moor_93 rfl (lv_at hl 0 rfl) ?_
            replace he := b_some he
            obtain ⟨V12, h12, he⟩ := he
            refine kVV C hd hl.1 kw_X4_299 (by decide) cM0 rfl (c_X4_putsBack l G hJ h12) ⟨Nat.le_of_ble_eq_true rfl, Nat.le_of_ble_eq_true rfl⟩ rfl (rest := []) rfl (Nat.le_of_ble_eq_true rfl) dX4_moor_94 (fun H locs hd => ?_)
            refine lv_aload_n hx hb dX4_moor_97 rfl (lv_at hl 0 rfl) ?_
            refine lv_iconst (v := 0) hx hb dX4_moor_98 (by decide) ?_
            replace he := bv_ex he
            obtain ⟨V13, e13, he⟩ := he
            refine rputf (cell' := (cM G) V13) C hd (by decide) cM0 rfl tgX4 tyX4 tyX4_ok nmX4 9 (by decide) tw710 rfl (tyX4_ok 9 (by decide)) rfl rfl (Nat.le_of_ble_eq_true rfl) (cM0_w (by decide) e13) (cM_ne e13) dX4_moor_99 (fun H locs hd => ?_)
            refine lv_aload_n hx hb dX4_moor_102 rfl (lv_at hl 0 rfl) ?_
            refine rgetf C hd (by decide) cM0 rfl tgX4 13 (by decide) tw714 rfl dX4_moor_103 ?_
            refine lv_if_eq (tgt := 118) hx hb dX4_moor_106 (by decide) (fun hc14 => ?_) (fun hc14 => ?_)
            · replace he := i_t hc14 he
              refine lv_iload_n hx hb dX4_moor_118 rfl (lv_at hl 1 rfl) ?_
              exact retIe (cf := (cM G)) C hr hlk hd he dX4_moor_119
            · replace he := i_f hc14 he
              refine lv_iconst (v := (-1)) hx hb dX4_moor_109 (by decide) ?_
              refine lv_aload_n hx hb dX4_moor_110 rfl (lv_at hl 0 rfl) ?_
              refine rgetf C hd (by decide) cM0 rfl tgX4 10 (by decide) tw711 rfl dX4_moor_111 ?_
              refine lv_isub hx hb dX4_moor_114 ?_
              refine lv_goto (tgt := 119) hx hb dX4_moor_115 (by decide) ?_
              exact retIe (cf := (cM G)) C hr hlk hd he dX4_moor_119
        · replace he := i_t hc7 he
          refine lv_aload_n hx hb dX4_moor_67 rfl (lv_at hl 0 rfl) ?_
          refine rgetf C hd (by decide) cM0 rfl tgX4 10 (by decide) tw711 rfl dX4_moor_68 ?_
          refine lv_aload_n hx hb dX4_moor_71 rfl (lv_at hl 0 rfl) ?_
          refine rgetf C hd (by decide) cM0 rfl tgX4 9 (by decide) tw710 rfl dX4_moor_72 ?_
          refine lv_icmp_ge (tgt := 82) hx hb dX4_moor_75 (by decide) (fun hc15 => ?_) (fun hc15 => ?_)
          · replace he := i_t hc15 he
            refine lv_iconst (v := 0) hx hb dX4_moor_82 (by decide) ?_
            replace he := bv_ex he
            obtain ⟨V16, e16, he⟩ := he
            refine rputf (cell' := (cM G) V16) C hd (by decide) cM0 rfl tgX4 tyX4 tyX4_ok nmX4 13 (by decide) tw714 rfl (tyX4_ok 13 (by decide)) rfl rfl (Nat.le_of_ble_eq_true rfl) (cM0_w (by decide) e16) (cM_ne e16) dX4_moor_83 (fun H locs hd => ?_)
            refine lv_aload_n hx hb dX4_moor_86 rfl (lv_at hl 0 rfl) ?_
            refine rgetf C hd (by decide) cM0 rfl tgX4 13 (by decide) tw714 rfl dX4_moor_87 ?_
            refine lv_if_eq (tgt := 97) hx hb dX4_moor_90 (by decide) (fun hc17 => ?_) (fun hc17 => ?_)
            · replace he := i_t hc17 he
              refine lv_aload_n hx hb dX4_moor_97 rfl (lv_at hl 0 rfl) ?_
              refine lv_iconst (v := 0) hx hb dX4_moor_98 (by decide) ?_
              replace he := bv_ex he
              obtain ⟨V18, e18, he⟩ := he
              refine rputf (cell' := (cM G) V18) C hd (by decide) cM0 rfl tgX4 tyX4 tyX4_ok nmX4 9 (by decide) tw710 rfl (tyX4_ok 9 (by decide)) rfl rfl (Nat.le_of_ble_eq_true rfl) (cM0_w (by decide) e18) (cM_ne e18) dX4_moor_99 (fun H locs hd => ?_)
              refine lv_aload_n hx hb dX4_moor_102 rfl (lv_at hl 0 rfl) ?_
              refine rgetf C hd (by decide) cM0 rfl tgX4 13 (by decide) tw714 rfl dX4_moor_103 ?_
              refine lv_if_eq (tgt := 118) hx hb dX4_moor_106 (by decide) (fun hc19 => ?_) (fun hc19 => ?_)
              · replace he := i_t hc19 he
                refine lv_iload_n hx hb dX4_moor_118 rfl (lv_at hl 1 rfl) ?_
                exact retIe (cf := (cM G)) C hr hlk hd he dX4_moor_119
              · replace he := i_f hc19 he
                refine lv_iconst (v := (-1)) hx hb dX4_moor_109 (by decide) ?_
                refine lv_aload_n hx hb dX4_moor_110 rfl (lv_at hl 0 rfl) ?_
                refine rgetf C hd (by decide) cM0 rfl tgX4 10 (by decide) tw711 rfl dX4_moor_111 ?_
                refine lv_isub hx hb dX4_moor_114 ?_
                refine lv_goto (tgt := 119) hx hb dX4_moor_115 (by decide) ?_
                exact retIe (cf := (cM G)) C hr hlk hd he dX4_moor_119
            · replace he := i_f hc17 he
              refine lv_aload_n hx hb dX4_moor_93 rfl (lv_at hl 0 rfl) ?_
              replace he := b_some he
              obtain ⟨V20, h20, he⟩ := he
              refine kVV C hd hl.1 kw_X4_299 (by decide) cM0 rfl (c_X4_putsBack l G hJ h20) ⟨Nat.le_of_ble_eq_true rfl, Nat.le_of_ble_eq_true rfl⟩ rfl (rest := []) rfl (Nat.le_of_ble_eq_true rfl) dX4_moor_94 (fun H locs hd => ?_)
              refine lv_aload_n hx hb dX4_moor_97 rfl (lv_at hl 0 rfl) ?_
              refine lv_iconst (v := 0) hx hb dX4_moor_98 (by decide) ?_
              replace he := bv_ex he
              obtain ⟨V21, e21, he⟩ := he
              refine rputf (cell' := (cM G) V21) C hd (by decide) cM0 rfl tgX4 tyX4 tyX4_ok nmX4 9 (by decide) tw710 rfl (tyX4_ok 9 (by decide)) rfl rfl (Nat.le_of_ble_eq_true rfl) (cM0_w (by decide) e21) (cM_ne e21) dX4_moor_99 (fun H locs hd => ?_)
              refine lv_aload_n hx hb dX4_moor_102 rfl (lv_at hl 0 rfl) ?_
              refine rgetf C hd (by decide) cM0 rfl tgX4 13 (by decide) tw714 rfl dX4_moor_103 ?_
              refine lv_if_eq (tgt := 118) hx hb dX4_moor_106 (by decide) (fun hc22 => ?_) (fun hc22 => ?_)
              · replace he := i_t hc22 he
                refine lv_iload_n hx hb dX4_moor_118 rfl (lv_at hl 1 rfl) ?_
                exact retIe (cf := (cM G)) C hr hlk hd he dX4_moor_119
              · replace he := i_f hc22 he
                refine lv_iconst (v := (-1)) hx hb dX4_moor_109 (by decide) ?_
                refine lv_aload_n hx hb dX4_moor_110 rfl (lv_at hl 0 rfl) ?_
                refine rgetf C hd (by decide) cM0 rfl tgX4 10 (by decide) tw711 rfl dX4_moor_111 ?_
                refine lv_isub hx hb dX4_moor_114 ?_
                refine lv_goto (tgt := 119) hx hb dX4_moor_115 (by decide) ?_
                exact retIe (cf := (cM G)) C hr hlk hd he dX4_moor_119
          · replace he := i_f hc15 he
            refine lv_iconst (v := 1) hx hb dX4_moor_78 (by decide) ?_
            refine lv_goto (tgt := 83) hx hb dX4_moor_79 (by decide) ?_
            replace he := bv_ex he
            obtain ⟨V23, e23, he⟩ := he
            refine rputf (cell' := (cM G) V23) C hd (by decide) cM0 rfl tgX4 tyX4 tyX4_ok nmX4 13 (by decide) tw714 rfl (tyX4_ok 13 (by decide)) rfl rfl (Nat.le_of_ble_eq_true rfl) (cM0_w (by decide) e23) (cM_ne e23) dX4_moor_83 (fun H locs hd => ?_)
            refine lv_aload_n hx hb dX4_moor_86 rfl (lv_at hl 0 rfl) ?_
            refine rgetf C hd (by decide) cM0 rfl tgX4 13 (by decide) tw714 rfl dX4_moor_87 ?_
            refine lv_if_eq (tgt := 97) hx hb dX4_moor_90 (by decide) (fun hc24 => ?_) (fun hc24 => ?_)
            · replace he := i_t hc24 he
              refine lv_aload_n hx hb dX4_moor_97 rfl (lv_at hl 0 rfl) ?_
              refine lv_iconst (v := 0) hx hb dX4_moor_98 (by decide) ?_
              replace he := bv_ex he
              obtain ⟨V25, e25, he⟩ := he
              refine rputf (cell' := (cM G) V25) C hd (by decide) cM0 rfl tgX4 tyX4 tyX4_ok nmX4 9 (by decide) tw710 rfl (tyX4_ok 9 (by decide)) rfl rfl (Nat.le_of_ble_eq_true rfl) (cM0_w (by decide) e25) (cM_ne e25) dX4_moor_99 (fun H locs hd => ?_)
              refine lv_aload_n hx hb dX4_moor_102 rfl (lv_at hl 0 rfl) ?_
              refine rgetf C hd (by decide) cM0 rfl tgX4 13 (by decide) tw714 rfl dX4_moor_103 ?_
              refine lv_if_eq (tgt := 118) hx hb dX4_moor_106 (by decide) (fun hc26 => ?_) (fun hc26 => ?_)
              · replace he := i_t hc26 he
                refine lv_iload_n hx hb dX4_moor_118 rfl (lv_at hl 1 rfl) ?_
                exact retIe (cf := (cM G)) C hr hlk hd he dX4_moor_119
              · replace he := i_f hc26 he
                refine lv_iconst (v := (-1)) hx hb dX4_moor_109 (by decide) ?_
                refine lv_aload_n hx hb dX4_moor_110 rfl (lv_at hl 0 rfl) ?_
                refine rgetf C hd (by decide) cM0 rfl tgX4 10 (by decide) tw711 rfl dX4_moor_111 ?_
                refine lv_isub hx hb dX4_moor_114 ?_
                refine lv_goto (tgt := 119) hx hb dX4_moor_115 (by decide) ?_
                exact retIe (cf := (cM G)) C hr hlk hd he dX4_moor_119
            · replace he := i_f hc24 he
              refine lv_aload_n hx hb dX4_moor_93 rfl (lv_at hl 0 rfl) ?_
              replace he := b_some he
              obtain ⟨V27, h27, he⟩ := he
              refine kVV C hd hl.1 kw_X4_299 (by decide) cM0 rfl (c_X4_putsBack l G hJ h27) ⟨Nat.le_of_ble_eq_true rfl, Nat.le_of_ble_eq_true rfl⟩ rfl (rest := []) rfl (Nat.le_of_ble_eq_true rfl) dX4_moor_94 (fun H locs hd => ?_)
              refine lv_aload_n hx hb dX4_moor_97 rfl (lv_at hl 0 rfl) ?_
              refine lv_iconst (v := 0) hx hb dX4_moor_98 (by decide) ?_
              replace he := bv_ex he
              obtain ⟨V28, e28, he⟩ := he
              refine rputf (cell' := (cM G) V28) C hd (by decide) cM0 rfl tgX4 tyX4 tyX4_ok nmX4 9 (by decide) tw710 rfl (tyX4_ok 9 (by decide)) rfl rfl (Nat.le_of_ble_eq_true rfl) (cM0_w (by decide) e28) (cM_ne e28) dX4_moor_99 (fun H locs hd => ?_)
              refine lv_aload_n hx hb dX4_moor_102 rfl (lv_at hl 0 rfl) ?_
              refine rgetf C hd (by decide) cM0 rfl tgX4 13 (by decide) tw714 rfl dX4_moor_103 ?_
              refine lv_if_eq (tgt := 118) hx hb dX4_moor_106 (by decide) (fun hc29 => ?_) (fun hc29 => ?_)
              · replace he := i_t hc29 he
                refine lv_iload_n hx hb dX4_moor_118 rfl (lv_at hl 1 rfl) ?_
                exact retIe (cf := (cM G)) C hr hlk hd he dX4_moor_119
              · replace he := i_f hc29 he
                refine lv_iconst (v := (-1)) hx hb dX4_moor_109 (by decide) ?_
                refine lv_aload_n hx hb dX4_moor_110 rfl (lv_at hl 0 rfl) ?_
                refine rgetf C hd (by decide) cM0 rfl tgX4 10 (by decide) tw711 rfl dX4_moor_111 ?_
                refine lv_isub hx hb dX4_moor_114 ?_
                refine lv_goto (tgt := 119) hx hb dX4_moor_115 (by decide) ?_
                exact retIe (cf := (cM G)) C hr hlk hd he dX4_moor_119
      · replace he := i_t hc6 he
        refine lv_aload_n hx hb dX4_moor_31 rfl (lv_at hl 0 rfl) ?_
        refine lv_aload_n hx hb dX4_moor_32 rfl (lv_at hl 0 rfl) ?_
        refine rgetf C hd (by decide) cM0 rfl tgX4 10 (by decide) tw711 rfl dX4_moor_33 ?_
        replace he := b_some he
        obtain ⟨⟨r30, V30⟩, h30, he⟩ := he
        refine kVI C hd hl.1 kw_X4_220 (by decide) cM0 rfl (c_X4_byteAt l G hJ h30) ⟨Nat.le_of_ble_eq_true rfl, Nat.le_of_ble_eq_true rfl⟩ rfl (rest := []) rfl (Nat.le_of_ble_eq_true rfl) dX4_moor_36 (fun H locs hd => ?_)
        refine lv_bipush (v := 59) hx hb dX4_moor_39 (by decide) ?_
        refine lv_icmp_ne (tgt := 59) hx hb dX4_moor_41 (by decide) (fun hc31 => ?_) (fun hc31 => ?_)
        · replace he := i_f hc31 he
          refine lv_aload_n hx hb dX4_moor_59 rfl (lv_at hl 0 rfl) ?_
          refine lv_aload_n hx hb dX4_moor_60 rfl (lv_at hl 0 rfl) ?_
          refine rgetf C hd (by decide) cM0 rfl tgX4 13 (by decide) tw714 rfl dX4_moor_61 ?_
          refine lv_if_ne (tgt := 78) hx hb dX4_moor_64 (by decide) (fun hc32 => ?_) (fun hc32 => ?_)
          · replace he := i_f hc32 he
            refine lv_iconst (v := 1) hx hb dX4_moor_78 (by decide) ?_
            refine lv_goto (tgt := 83) hx hb dX4_moor_79 (by decide) ?_
            replace he := bv_ex he
            obtain ⟨V33, e33, he⟩ := he
            refine rputf (cell' := (cM G) V33) C hd (by decide) cM0 rfl tgX4 tyX4 tyX4_ok nmX4 13 (by decide) tw714 rfl (tyX4_ok 13 (by decide)) rfl rfl (Nat.le_of_ble_eq_true rfl) (cM0_w (by decide) e33) (cM_ne e33) dX4_moor_83 (fun H locs hd => ?_)
            refine lv_aload_n hx hb dX4_moor_86 rfl (lv_at hl 0 rfl) ?_
            refine rgetf C hd (by decide) cM0 rfl tgX4 13 (by decide) tw714 rfl dX4_moor_87 ?_
            refine lv_if_eq (tgt := 97) hx hb dX4_moor_90 (by decide) (fun hc34 => ?_) (fun hc34 => ?_)
            · replace he := i_t hc34 he
              refine lv_aload_n hx hb dX4_moor_97 rfl (lv_at hl 0 rfl) ?_
              refine lv_iconst (v := 0) hx hb dX4_moor_98 (by decide) ?_
              replace he := bv_ex he
              obtain ⟨V35, e35, he⟩ := he
              refine rputf (cell' := (cM G) V35) C hd (by decide) cM0 rfl tgX4 tyX4 tyX4_ok nmX4 9 (by decide) tw710 rfl (tyX4_ok 9 (by decide)) rfl rfl (Nat.le_of_ble_eq_true rfl) (cM0_w (by decide) e35) (cM_ne e35) dX4_moor_99 (fun H locs hd => ?_)
              refine lv_aload_n hx hb dX4_moor_102 rfl (lv_at hl 0 rfl) ?_
              refine rgetf C hd (by decide) cM0 rfl tgX4 13 (by decide) tw714 rfl dX4_moor_103 ?_
              refine lv_if_eq (tgt := 118) hx hb dX4_moor_106 (by decide) (fun hc36 => ?_) (fun hc36 => ?_)
              · replace he := i_t hc36 he
                refine lv_iload_n hx hb dX4_moor_118 rfl (lv_at hl 1 rfl) ?_
                exact retIe (cf := (cM G)) C hr hlk hd he dX4_moor_119
              · replace he := i_f hc36 he
                refine lv_iconst (v := (-1)) hx hb dX4_moor_109 (by decide) ?_
                refine lv_aload_n hx hb dX4_moor_110 rfl (lv_at hl 0 rfl) ?_
                refine rgetf C hd (by decide) cM0 rfl tgX4 10 (by decide) tw711 rfl dX4_moor_111 ?_
                refine lv_isub hx hb dX4_moor_114 ?_
                refine lv_goto (tgt := 119) hx hb dX4_moor_115 (by decide) ?_
                exact retIe (cf := (cM G)) C hr hlk hd he dX4_moor_119
            · replace he := i_f hc34 he
              refine lv_aload_n hx hb dX4_moor_93 rfl (lv_at hl 0 rfl) ?_
              replace he := b_some he
              obtain ⟨V37, h37, he⟩ := he
              refine kVV C hd hl.1 kw_X4_299 (by decide) cM0 rfl (c_X4_putsBack l G hJ h37) ⟨Nat.le_of_ble_eq_true rfl, Nat.le_of_ble_eq_true rfl⟩ rfl (rest := []) rfl (Nat.le_of_ble_eq_true rfl) dX4_moor_94 (fun H locs hd => ?_)
              refine lv_aload_n hx hb dX4_moor_97 rfl (lv_at hl 0 rfl) ?_
              refine lv_iconst (v := 0) hx hb dX4_moor_98 (by decide) ?_
              replace he := bv_ex he
              obtain ⟨V38, e38, he⟩ := he
              refine rputf (cell' := (cM G) V38) C hd (by decide) cM0 rfl tgX4 tyX4 tyX4_ok nmX4 9 (by decide) tw710 rfl (tyX4_ok 9 (by decide)) rfl rfl (Nat.le_of_ble_eq_true rfl) (cM0_w (by decide) e38) (cM_ne e38) dX4_moor_99 (fun H locs hd => ?_)
              refine lv_aload_n hx hb dX4_moor_102 rfl (lv_at hl 0 rfl) ?_
              refine rgetf C hd (by decide) cM0 rfl tgX4 13 (by decide) tw714 rfl dX4_moor_103 ?_
              refine lv_if_eq (tgt := 118) hx hb dX4_moor_106 (by decide) (fun hc39 => ?_) (fun hc39 => ?_)
              · replace he := i_t hc39 he
                refine lv_iload_n hx hb dX4_moor_118 rfl (lv_at hl 1 rfl) ?_
                exact retIe (cf := (cM G)) C hr hlk hd he dX4_moor_119
              · replace he := i_f hc39 he
                refine lv_iconst (v := (-1)) hx hb dX4_moor_109 (by decide) ?_
                refine lv_aload_n hx hb dX4_moor_110 rfl (lv_at hl 0 rfl) ?_
                refine rgetf C hd (by decide) cM0 rfl tgX4 10 (by decide) tw711 rfl dX4_moor_111 ?_
                refine lv_isub hx hb dX4_moor_114 ?_
                refine lv_goto (tgt := 119) hx hb dX4_moor_115 (by decide) ?_
                exact retIe (cf := (cM G)) C hr hlk hd he dX4_moor_119
          · replace he := i_t hc32 he
            refine lv_aload_n hx hb dX4_moor_67 rfl (lv_at hl 0 rfl) ?_
            refine rgetf C hd (by decide) cM0 rfl tgX4 10 (by decide) tw711 rfl dX4_moor_68 ?_
            refine lv_aload_n hx hb dX4_moor_71 rfl (lv_at hl 0 rfl) ?_
            refine rgetf C hd (by decide) cM0 rfl tgX4 9 (by decide) tw710 rfl dX4_moor_72 ?_
            refine lv_icmp_ge (tgt := 82) hx hb dX4_moor_75 (by decide) (fun hc40 => ?_) (fun hc40 => ?_)
            · replace he := i_t hc40 he
              refine lv_iconst (v := 0) hx hb dX4_moor_82 (by decide) ?_
              replace he := bv_ex he
              obtain ⟨V41, e41, he⟩ := he
              refine rputf (cell' := (cM G) V41) C hd (by decide) cM0 rfl tgX4 tyX4 tyX4_ok nmX4 13 (by decide) tw714 rfl (tyX4_ok 13 (by decide)) rfl rfl (Nat.le_of_ble_eq_true rfl) (cM0_w (by decide) e41) (cM_ne e41) dX4_moor_83 (fun H locs hd => ?_)
              refine lv_aload_n hx hb dX4_moor_86 rfl (lv_at hl 0 rfl) ?_
              refine rgetf C hd (by decide) cM0 rfl tgX4 13 (by decide) tw714 rfl dX4_moor_87 ?_
              refine lv_if_eq (tgt := 97) hx hb dX4_moor_90 (by decide) (fun hc42 => ?_) (fun hc42 => ?_)
              · replace he := i_t hc42 he
                refine lv_aload_n hx hb dX4_moor_97 rfl (lv_at hl 0 rfl) ?_
                refine lv_iconst (v := 0) hx hb dX4_moor_98 (by decide) ?_
                replace he := bv_ex he
                obtain ⟨V43, e43, he⟩ := he
                refine rputf (cell' := (cM G) V43) C hd (by decide) cM0 rfl tgX4 tyX4 tyX4_ok nmX4 9 (by decide) tw710 rfl (tyX4_ok 9 (by decide)) rfl rfl (Nat.le_of_ble_eq_true rfl) (cM0_w (by decide) e43) (cM_ne e43) dX4_moor_99 (fun H locs hd => ?_)
                refine lv_aload_n hx hb dX4_moor_102 rfl (lv_at hl 0 rfl) ?_
                refine rgetf C hd (by decide) cM0 rfl tgX4 13 (by decide) tw714 rfl dX4_moor_103 ?_
                refine lv_if_eq (tgt := 118) hx hb dX4_moor_106 (by decide) (fun hc44 => ?_) (fun hc44 => ?_)
                · replace he := i_t hc44 he
                  refine lv_iload_n hx hb dX4_moor_118 rfl (lv_at hl 1 rfl) ?_
                  exact retIe (cf := (cM G)) C hr hlk hd he dX4_moor_119
                · replace he := i_f hc44 he
                  refine lv_iconst (v := (-1)) hx hb dX4_moor_109 (by decide) ?_
                  refine lv_aload_n hx hb dX4_moor_110 rfl (lv_at hl 0 rfl) ?_
                  refine rgetf C hd (by decide) cM0 rfl tgX4 10 (by decide) tw711 rfl dX4_moor_111 ?_
                  refine lv_isub hx hb dX4_moor_114 ?_
                  refine lv_goto (tgt := 119) hx hb dX4_moor_115 (by decide) ?_
                  exact retIe (cf := (cM G)) C hr hlk hd he dX4_moor_119
              · replace he := i_f hc42 he
                refine lv_aload_n hx hb dX4_moor_93 rfl (lv_at hl 0 rfl) ?_
                replace he := b_some he
                obtain ⟨V45, h45, he⟩ := he
                refine kVV C hd hl.1 kw_X4_299 (by decide) cM0 rfl (c_X4_putsBack l G hJ h45) ⟨Nat.le_of_ble_eq_true rfl, Nat.le_of_ble_eq_true rfl⟩ rfl (rest := []) rfl (Nat.le_of_ble_eq_true rfl) dX4_moor_94 (fun H locs hd => ?_)
                refine lv_aload_n hx hb dX4_moor_97 rfl (lv_at hl 0 rfl) ?_
                refine lv_iconst (v := 0) hx hb dX4_moor_98 (by decide) ?_
                replace he := bv_ex he
                obtain ⟨V46, e46, he⟩ := he
                refine rputf (cell' := (cM G) V46) C hd (by decide) cM0 rfl tgX4 tyX4 tyX4_ok nmX4 9 (by decide) tw710 rfl (tyX4_ok 9 (by decide)) rfl rfl (Nat.le_of_ble_eq_true rfl) (cM0_w (by decide) e46) (cM_ne e46) dX4_moor_99 (fun H locs hd => ?_)
                refine lv_aload_n hx hb dX4_moor_102 rfl (lv_at hl 0 rfl) ?_
                refine rgetf C hd (by decide) cM0 rfl tgX4 13 (by decide) tw714 rfl dX4_moor_103 ?_
                refine lv_if_eq (tgt := 118) hx hb dX4_moor_106 (by decide) (fun hc47 => ?_) (fun hc47 => ?_)
                · replace he := i_t hc47 he
                  refine lv_iload_n hx hb dX4_moor_118 rfl (lv_at hl 1 rfl) ?_
                  exact retIe (cf := (cM G)) C hr hlk hd he dX4_moor_119
                · replace he := i_f hc47 he
                  refine lv_iconst (v := (-1)) hx hb dX4_moor_109 (by decide) ?_
                  refine lv_aload_n hx hb dX4_moor_110 rfl (lv_at hl 0 rfl) ?_
                  refine rgetf C hd (by decide) cM0 rfl tgX4 10 (by decide) tw711 rfl dX4_moor_111 ?_
                  refine lv_isub hx hb dX4_moor_114 ?_
                  refine lv_goto (tgt := 119) hx hb dX4_moor_115 (by decide) ?_
                  exact retIe (cf := (cM G)) C hr hlk hd he dX4_moor_119
            · replace he := i_f hc40 he
              refine lv_iconst (v := 1) hx hb dX4_moor_78 (by decide) ?_
              refine lv_goto (tgt := 83) hx hb dX4_moor_79 (by decide) ?_
              replace he := bv_ex he
              obtain ⟨V48, e48, he⟩ := he
              refine rputf (cell' := (cM G) V48) C hd (by decide) cM0 rfl tgX4 tyX4 tyX4_ok nmX4 13 (by decide) tw714 rfl (tyX4_ok 13 (by decide)) rfl rfl (Nat.le_of_ble_eq_true rfl) (cM0_w (by decide) e48) (cM_ne e48) dX4_moor_83 (fun H locs hd => ?_)
              refine lv_aload_n hx hb dX4_moor_86 rfl (lv_at hl 0 rfl) ?_
              refine rgetf C hd (by decide) cM0 rfl tgX4 13 (by decide) tw714 rfl dX4_moor_87 ?_
              refine lv_if_eq (tgt := 97) hx hb dX4_moor_90 (by decide) (fun hc49 => ?_) (fun hc49 => ?_)
              · replace he := i_t hc49 he
                refine lv_aload_n hx hb dX4_moor_97 rfl (lv_at hl 0 rfl) ?_
                refine lv_iconst (v := 0) hx hb dX4_moor_98 (by decide) ?_
                replace he := bv_ex he
                obtain ⟨V50, e50, he⟩ := he
                refine rputf (cell' := (cM G) V50) C hd (by decide) cM0 rfl tgX4 tyX4 tyX4_ok nmX4 9 (by decide) tw710 rfl (tyX4_ok 9 (by decide)) rfl rfl (Nat.le_of_ble_eq_true rfl) (cM0_w (by decide) e50) (cM_ne e50) dX4_moor_99 (fun H locs hd => ?_)
                refine lv_aload_n hx hb dX4_moor_102 rfl (lv_at hl 0 rfl) ?_
                refine rgetf C hd (by decide) cM0 rfl tgX4 13 (by decide) tw714 rfl dX4_moor_103 ?_
                refine lv_if_eq (tgt := 118) hx hb dX4_moor_106 (by decide) (fun hc51 => ?_) (fun hc51 => ?_)
                · replace he := i_t hc51 he
                  refine lv_iload_n hx hb dX4_moor_118 rfl (lv_at hl 1 rfl) ?_
                  exact retIe (cf := (cM G)) C hr hlk hd he dX4_moor_119
                · replace he := i_f hc51 he
                  refine lv_iconst (v := (-1)) hx hb dX4_moor_109 (by decide) ?_
                  refine lv_aload_n hx hb dX4_moor_110 rfl (lv_at hl 0 rfl) ?_
                  refine rgetf C hd (by decide) cM0 rfl tgX4 10 (by decide) tw711 rfl dX4_moor_111 ?_
                  refine lv_isub hx hb dX4_moor_114 ?_
                  refine lv_goto (tgt := 119) hx hb dX4_moor_115 (by decide) ?_
                  exact retIe (cf := (cM G)) C hr hlk hd he dX4_moor_119
              · replace he := i_f hc49 he
                refine lv_aload_n hx hb dX4_moor_93 rfl (lv_at hl 0 rfl) ?_
                replace he := b_some he
                obtain ⟨V52, h52, he⟩ := he
                refine kVV C hd hl.1 kw_X4_299 (by decide) cM0 rfl (c_X4_putsBack l G hJ h52) ⟨Nat.le_of_ble_eq_true rfl, Nat.le_of_ble_eq_true rfl⟩ rfl (rest := []) rfl (Nat.le_of_ble_eq_true rfl) dX4_moor_94 (fun H locs hd => ?_)
                refine lv_aload_n hx hb dX4_moor_97 rfl (lv_at hl 0 rfl) ?_
                refine lv_iconst (v := 0) hx hb dX4_moor_98 (by decide) ?_
                replace he := bv_ex he
                obtain ⟨V53, e53, he⟩ := he
                refine rputf (cell' := (cM G) V53) C hd (by decide) cM0 rfl tgX4 tyX4 tyX4_ok nmX4 9 (by decide) tw710 rfl (tyX4_ok 9 (by decide)) rfl rfl (Nat.le_of_ble_eq_true rfl) (cM0_w (by decide) e53) (cM_ne e53) dX4_moor_99 (fun H locs hd => ?_)
                refine lv_aload_n hx hb dX4_moor_102 rfl (lv_at hl 0 rfl) ?_
                refine rgetf C hd (by decide) cM0 rfl tgX4 13 (by decide) tw714 rfl dX4_moor_103 ?_
                refine lv_if_eq (tgt := 118) hx hb dX4_moor_106 (by decide) (fun hc54 => ?_) (fun hc54 => ?_)
                · replace he := i_t hc54 he
                  refine lv_iload_n hx hb dX4_moor_118 rfl (lv_at hl 1 rfl) ?_
                  exact retIe (cf := (cM G)) C hr hlk hd he dX4_moor_119
                · replace he := i_f hc54 he
                  refine lv_iconst (v := (-1)) hx hb dX4_moor_109 (by decide) ?_
                  refine lv_aload_n hx hb dX4_moor_110 rfl (lv_at hl 0 rfl) ?_
                  refine rgetf C hd (by decide) cM0 rfl tgX4 10 (by decide) tw711 rfl dX4_moor_111 ?_
                  refine lv_isub hx hb dX4_moor_114 ?_
                  refine lv_goto (tgt := 119) hx hb dX4_moor_115 (by decide) ?_
                  exact retIe (cf := (cM G)) C hr hlk hd he dX4_moor_119
        · replace he := i_t hc31 he
          refine lv_aload_n hx hb dX4_moor_44 rfl (lv_at hl 0 rfl) ?_
          refine lv_iconst (v := 1) hx hb dX4_moor_45 (by decide) ?_
          replace he := b_some he
          obtain ⟨V55, h55, he⟩ := he
          refine kVV C hd hl.1 kw_X4_243 (by decide) cM0 rfl (c_X4_must l G hJ h55) ⟨Nat.le_of_ble_eq_true rfl, Nat.le_of_ble_eq_true rfl⟩ rfl (rest := []) rfl (Nat.le_of_ble_eq_true rfl) dX4_moor_46 (fun H locs hd => ?_)
          refine lv_aload_n hx hb dX4_moor_49 rfl (lv_at hl 0 rfl) ?_
          replace he := b_some he
          obtain ⟨V56, h56, he⟩ := he
          refine kVV C hd hl.1 kw_X4_296 (by decide) cM0 rfl (c_X4_item l G hJ h56) ⟨Nat.le_of_ble_eq_true rfl, Nat.le_of_ble_eq_true rfl⟩ rfl (rest := []) rfl (Nat.le_of_ble_eq_true rfl) dX4_moor_50 (fun H locs hd => ?_)
          refine lv_iinc (v := _ + 1) (lv' := [(1, .int _), (0, .ref _)]) hx hb dX4_moor_53 hl (k := 1) rfl rfl (by decide) rfl (fun ls hl => ?_)
          refine lv_goto (tgt := 24) hx hb dX4_moor_56 (by decide) ?_
          exact ih24 _ _ _ _ _ (lv_sub hl [1, 0] rfl) hd he
  unfold f_X4_moor at he
  refine lv_aload_n hx hb dX4_moor_0 rfl (lv_at hl 0 rfl) ?_
  replace he := b_some he
  obtain ⟨V1, h1, he⟩ := he
  refine kVV C hd hl.1 kw_X4_293 (by decide) cM0 rfl (c_X4_saves l G hJ h1) ⟨Nat.le_of_ble_eq_true rfl, Nat.le_of_ble_eq_true rfl⟩ rfl (rest := []) rfl (Nat.le_of_ble_eq_true rfl) dX4_moor_1 (fun H locs hd => ?_)
  refine lv_aload_n hx hb dX4_moor_4 rfl (lv_at hl 0 rfl) ?_
  refine lv_iconst (v := 0) hx hb dX4_moor_5 (by decide) ?_
  replace he := bv_ex he
  obtain ⟨V2, e2, he⟩ := he
  refine rputf (cell' := (cM G) V2) C hd (by decide) cM0 rfl tgX4 tyX4 tyX4_ok nmX4 13 (by decide) tw714 rfl (tyX4_ok 13 (by decide)) rfl rfl (Nat.le_of_ble_eq_true rfl) (cM0_w (by decide) e2) (cM_ne e2) dX4_moor_6 (fun H locs hd => ?_)
  refine lv_aload_n hx hb dX4_moor_9 rfl (lv_at hl 0 rfl) ?_
  refine lv_iconst (v := 0) hx hb dX4_moor_10 (by decide) ?_
  replace he := bv_ex he
  obtain ⟨V3, e3, he⟩ := he
  refine rputf (cell' := (cM G) V3) C hd (by decide) cM0 rfl tgX4 tyX4 tyX4_ok nmX4 11 (by decide) tw712 rfl (tyX4_ok 11 (by decide)) rfl rfl (Nat.le_of_ble_eq_true rfl) (cM0_w (by decide) e3) (cM_ne e3) dX4_moor_11 (fun H locs hd => ?_)
  refine lv_aload_n hx hb dX4_moor_14 rfl (lv_at hl 0 rfl) ?_
  replace he := b_some he
  obtain ⟨V4, h4, he⟩ := he
  refine kVV C hd hl.1 kw_X4_233 (by decide) cM0 rfl (c_X4_token l G hJ h4) ⟨Nat.le_of_ble_eq_true rfl, Nat.le_of_ble_eq_true rfl⟩ rfl (rest := []) rfl (Nat.le_of_ble_eq_true rfl) dX4_moor_15 (fun H locs hd => ?_)
  refine lv_iconst (v := 1) hx hb dX4_moor_18 (by decide) ?_
  refine lv_istore_n (lv' := [(1, .int _), (0, .ref _)]) hx hb dX4_moor_19 rfl hl (by decide) rfl (fun ls hl => ?_)
  refine lv_aload_n hx hb dX4_moor_20 rfl (lv_at hl 1 rfl) ?_
  replace he := b_some he
  obtain ⟨V5, h5, he⟩ := he
  refine kVV C hd hl.1 kw_X4_296 (by decide) cM0 rfl (c_X4_item l G hJ h5) ⟨Nat.le_of_ble_eq_true rfl, Nat.le_of_ble_eq_true rfl⟩ rfl (rest := []) rfl (Nat.le_of_ble_eq_true rfl) dX4_moor_21 (fun H locs hd => ?_)
  exact L24 200 _ _ _ _ _ (lv_sub hl [1, 0] rfl) hd he
set_option maxRecDepth 100000 in
set_option maxHeartbeats 4000000 in
theorem c_X4_isOne (l : Launch) (G : Gd) (hJ : Inj 11 G.2.2) {a1 : Int32} {V V' : VV} {r : Int32} (he : f_X4_isOne a1 V = some (r, V')) : MZ l 11 G XM yX4_isOne cX4_isOne 1 1 25 [.int a1] (cM G V) (cM G V') r := by
  refine walk_of (own := RX4) (by decide) rfl hJ (xs_M G) (Nat.le_of_ble_eq_true rfl) ?_
  intro p e s m below meth c C hr hlk ls hl hd
  have hl : lv_has ls 1 [(0, .int a1)] := hl
  obtain ⟨⟨hx, hb, hml, hown, hts⟩, -⟩ := id C
  unfold f_X4_isOne at he
  refine lv_iload_n hx hb dX4_isOne_0 rfl (lv_at hl 0 rfl) ?_
  refine lv_i2l hx hb dX4_isOne_1 rfl ?_
  refine lv_lconst (v := 0) hx hb dX4_isOne_2 (by decide) ?_
  refine lv_ldc2 hx hb hown (hts _ tw833) dX4_isOne_3 ?_
  replace he := b_some he
  obtain ⟨⟨r1, V1⟩, h1, he⟩ := he
  refine kSZ C hd hl.1 kw_X4_44 (c_X4_in l G hJ h1) ⟨Nat.le_of_ble_eq_true rfl, Nat.le_of_ble_eq_true rfl⟩ rfl (rest := []) rfl (Nat.le_of_ble_eq_true rfl) dX4_isOne_6 (fun H locs hz1 hd => ?_)
  exact retZe (cf := (cM G)) C hr hlk hd hz1 he dX4_isOne_9
set_option maxRecDepth 100000 in
set_option maxHeartbeats 4000000 in
theorem c_X4_sheet (l : Launch) (G : Gd) (hJ : Inj 11 G.2.2) {a1 : Int32} {a2 : Int32} {a3 : Int32} {V V' : VV} {r : Int32} (he : f_X4_sheet a1 a2 a3 V = some (r, V')) : MI l 11 G XM yX4_sheet cX4_sheet 5 2 45 [.ref (G.2.2 0), .int a1, .int a2, .int a3] (cM G V) (cM G V') r := by
  refine walk_of (own := RX4) (by decide) rfl hJ (xs_M G) (Nat.le_of_ble_eq_true rfl) ?_
  intro p e s m below meth c C hr hlk ls hl hd
  have hl : lv_has ls 5 [(0, .ref (G.2.2 0)), (1, .int a1), (2, .int a2), (3, .int a3)] := hl
  obtain ⟨⟨hx, hb, hml, hown, hts⟩, -⟩ := id C
  have L86 : ∀ (fuel : Nat) (x1 : Int32) (x4 : Int32) (V : VV) (H : Heap) (locs : List Loc) (ls : Array Slot), lv_has ls 5 [(0, .ref (G.2.2 0)), (1, .int x1), (4, .int x4)] → Dy 11 G (cM G V) s H locs → f_X4_sheet_L86 fuel x1 x4 V = some (r, V') → W p l e (rmF 2 45) s m ([.ref (G.2.2 0), .int a1, .int a2, .int a3] : List Value).toArray below meth c H locs 0 0 (MQ below (QI 11 G (cM G V') (fun r' => r' = r)) ([.ref (G.2.2 0), .int a1, .int a2, .int a3] : List Value).toArray s 0 0 (inA 11 G.2.2)) (F0 m 86 ls []) := by
    intro fuel
    induction fuel with
    | zero => intro x1 x4 V H locs ls hl hd he; simp [f_X4_sheet_L86] at he
    | succ n ih86 =>
      intro x1 x4 V H locs ls hl hd he
      rw [f_X4_sheet_L86] at he
      refine lv_iload hx hb dX4_sheet_86 (lv_at hl 2 rfl) ?_
      refine lv_bipush (v := 40) hx hb dX4_sheet_88 (by decide) ?_
      refine lv_icmp_ge (tgt := 112) hx hb dX4_sheet_90 (by decide) (fun hc12 => ?_) (fun hc12 => ?_)
      · replace he := i_t hc12 he
        refine lv_aload_n hx hb dX4_sheet_112 rfl (lv_at hl 0 rfl) ?_
        refine rgetf C hd (by decide) cM0 rfl tgX4 15 (by decide) tw716 rfl dX4_sheet_113 ?_
        refine lv_iload_n hx hb dX4_sheet_116 rfl (lv_at hl 1 rfl) ?_
        replace he := g_some he
        obtain ⟨hi13, he⟩ := he
        refine riald C hd (by decide) cMa8 hi13 dX4_sheet_117 ?_
        exact retIe (cf := (cM G)) C hr hlk hd he dX4_sheet_118
      · replace he := i_f hc12 he
        refine lv_aload_n hx hb dX4_sheet_93 rfl (lv_at hl 0 rfl) ?_
        refine rgetf C hd (by decide) cM0 rfl tgX4 16 (by decide) tw717 rfl dX4_sheet_94 ?_
        refine lv_bipush (v := 40) hx hb dX4_sheet_97 (by decide) ?_
        refine lv_iload_n hx hb dX4_sheet_99 rfl (lv_at hl 1 rfl) ?_
        refine lv_imul hx hb dX4_sheet_100 ?_
        refine lv_iload hx hb dX4_sheet_101 (lv_at hl 2 rfl) ?_
        refine lv_iadd hx hb dX4_sheet_103 ?_
        refine lv_lconst (v := 0) hx hb dX4_sheet_104 (by decide) ?_
        replace he := g_some he
        obtain ⟨hi14, he⟩ := he
        replace he := bv_ex he
        obtain ⟨V15, e15, he⟩ := he
        refine rlast (cell' := (cM G) V15) C hd (by decide) cMa9 hi14 (cMaw9 e15) (cM_neJ e15) dX4_sheet_105 (fun H locs hd => ?_)
        refine lv_iinc (v := _ + 1) (lv' := [(4, .int _), (0, .ref _), (1, .int _)]) hx hb dX4_sheet_106 hl (k := 2) rfl rfl (by decide) rfl (fun ls hl => ?_)
        refine lv_goto (tgt := 86) hx hb dX4_sheet_109 (by decide) ?_
        exact ih86 _ _ _ _ _ _ (lv_sub hl [1, 2, 0] rfl) hd he
  unfold f_X4_sheet at he
  refine lv_iload_n hx hb dX4_sheet_0 rfl (lv_at hl 1 rfl) ?_
  replace he := b_some he
  obtain ⟨⟨r1, V1⟩, h1, he⟩ := he
  refine kSZ C hd hl.1 kw_X4_302 (c_X4_isOne l G hJ h1) ⟨Nat.le_of_ble_eq_true rfl, Nat.le_of_ble_eq_true rfl⟩ rfl (rest := []) rfl (Nat.le_of_ble_eq_true rfl) dX4_sheet_1 (fun H locs hz1 hd => ?_)
  refine lv_if_eq (tgt := 29) hx hb dX4_sheet_4 (by decide) (fun hc2 => ?_) (fun hc2 => ?_)
  · replace he := i_t hc2 he
    refine lv_aload_n hx hb dX4_sheet_29 rfl (lv_at hl 0 rfl) ?_
    refine lv_ldc hx hb hown (hts _ tw768) dX4_sheet_30 ?_
    replace he := b_some he
    obtain ⟨⟨r3, V3⟩, h3, he⟩ := he
    refine kVI C hd hl.1 kw_X4_66 (by decide) cM0 rfl (c_X4_finds l G hJ h3) ⟨Nat.le_of_ble_eq_true rfl, Nat.le_of_ble_eq_true rfl⟩ rfl (rest := []) rfl (Nat.le_of_ble_eq_true rfl) dX4_sheet_32 (fun H locs hd => ?_)
    exact retIe (cf := (cM G)) C hr hlk hd he dX4_sheet_35
  · replace he := i_f hc2 he
    refine lv_iload_n hx hb dX4_sheet_7 rfl (lv_at hl 2 rfl) ?_
    refine lv_if_eq (tgt := 36) hx hb dX4_sheet_8 (by decide) (fun hc4 => ?_) (fun hc4 => ?_)
    · replace he := i_t hc4 he
      refine lv_iload_n hx hb dX4_sheet_36 rfl (lv_at hl 3 rfl) ?_
      refine lv_if_ge (tgt := 48) hx hb dX4_sheet_37 (by decide) (fun hc5 => ?_) (fun hc5 => ?_)
      · replace he := i_t hc5 he
        refine lv_iload_n hx hb dX4_sheet_48 rfl (lv_at hl 3 rfl) ?_
        refine lv_bipush (v := 40) hx hb dX4_sheet_49 (by decide) ?_
        refine lv_icmp_le (tgt := 61) hx hb dX4_sheet_51 (by decide) (fun hc6 => ?_) (fun hc6 => ?_)
        · replace he := i_t hc6 he
          refine lv_aload_n hx hb dX4_sheet_61 rfl (lv_at hl 0 rfl) ?_
          refine rgetf C hd (by decide) cM0 rfl tgX4 14 (by decide) tw715 rfl dX4_sheet_62 ?_
          refine lv_iload_n hx hb dX4_sheet_65 rfl (lv_at hl 1 rfl) ?_
          refine lv_iload_n hx hb dX4_sheet_66 rfl (lv_at hl 2 rfl) ?_
          replace he := g_some he
          obtain ⟨hi7, he⟩ := he
          replace he := bv_ex he
          obtain ⟨V8, e8, he⟩ := he
          refine riast (cell' := (cM G) V8) C hd (by decide) cMa7 hi7 (cMaw7 e8) (cM_ne e8) dX4_sheet_67 (fun H locs hd => ?_)
          refine lv_aload_n hx hb dX4_sheet_68 rfl (lv_at hl 0 rfl) ?_
          refine rgetf C hd (by decide) cM0 rfl tgX4 15 (by decide) tw716 rfl dX4_sheet_69 ?_
          refine lv_iload_n hx hb dX4_sheet_72 rfl (lv_at hl 1 rfl) ?_
          refine lv_iload_n hx hb dX4_sheet_73 rfl (lv_at hl 2 rfl) ?_
          refine lv_if_ne (tgt := 81) hx hb dX4_sheet_74 (by decide) (fun hc9 => ?_) (fun hc9 => ?_)
          · replace he := i_f hc9 he
            refine lv_iload_n hx hb dX4_sheet_81 rfl (lv_at hl 3 rfl) ?_
            replace he := g_some he
            obtain ⟨hi10, he⟩ := he
            replace he := bv_ex he
            obtain ⟨V11, e11, he⟩ := he
            refine riast (cell' := (cM G) V11) C hd (by decide) cMa8 hi10 (cMaw8 e11) (cM_ne e11) dX4_sheet_82 (fun H locs hd => ?_)
            refine lv_iconst (v := 0) hx hb dX4_sheet_83 (by decide) ?_
            refine lv_istore (lv' := [(4, .int _), (0, .ref _), (1, .int _), (2, .int _), (3, .int _)]) hx hb dX4_sheet_84 hl (by decide) rfl (fun ls hl => ?_)
            exact L86 200 _ _ _ _ _ _ (lv_sub hl [1, 2, 0] rfl) hd he
          · replace he := i_t hc9 he
            refine lv_iconst (v := 0) hx hb dX4_sheet_77 (by decide) ?_
            refine lv_goto (tgt := 82) hx hb dX4_sheet_78 (by decide) ?_
            replace he := g_some he
            obtain ⟨hi16, he⟩ := he
            replace he := bv_ex he
            obtain ⟨V17, e17, he⟩ := he
            refine riast (cell' := (cM G) V17) C hd (by decide) cMa8 hi16 (cMaw8 e17) (cM_ne e17) dX4_sheet_82 (fun H locs hd => ?_)
            refine lv_iconst (v := 0) hx hb dX4_sheet_83 (by decide) ?_
            refine lv_istore (lv' := [(4, .int _), (0, .ref _), (1, .int _), (2, .int _), (3, .int _)]) hx hb dX4_sheet_84 hl (by decide) rfl (fun ls hl => ?_)
            exact L86 200 _ _ _ _ _ _ (lv_sub hl [1, 2, 0] rfl) hd he
        · replace he := i_f hc6 he
          refine lv_aload_n hx hb dX4_sheet_54 rfl (lv_at hl 0 rfl) ?_
          refine lv_ldc hx hb hown (hts _ tw768) dX4_sheet_55 ?_
          replace he := b_some he
          obtain ⟨⟨r18, V18⟩, h18, he⟩ := he
          refine kVI C hd hl.1 kw_X4_66 (by decide) cM0 rfl (c_X4_finds l G hJ h18) ⟨Nat.le_of_ble_eq_true rfl, Nat.le_of_ble_eq_true rfl⟩ rfl (rest := []) rfl (Nat.le_of_ble_eq_true rfl) dX4_sheet_57 (fun H locs hd => ?_)
          exact retIe (cf := (cM G)) C hr hlk hd he dX4_sheet_60
      · replace he := i_f hc5 he
        refine lv_aload_n hx hb dX4_sheet_40 rfl (lv_at hl 0 rfl) ?_
        refine lv_ldcw hx hb hown (hts _ tw1108) dX4_sheet_41 ?_
        replace he := b_some he
        obtain ⟨⟨r19, V19⟩, h19, he⟩ := he
        refine kVI C hd hl.1 kw_X4_66 (by decide) cM0 rfl (c_X4_finds l G hJ h19) ⟨Nat.le_of_ble_eq_true rfl, Nat.le_of_ble_eq_true rfl⟩ rfl (rest := []) rfl (Nat.le_of_ble_eq_true rfl) dX4_sheet_44 (fun H locs hd => ?_)
        exact retIe (cf := (cM G)) C hr hlk hd he dX4_sheet_47
    · replace he := i_f hc4 he
      refine lv_iload_n hx hb dX4_sheet_11 rfl (lv_at hl 2 rfl) ?_
      refine lv_bipush (v := 8) hx hb dX4_sheet_12 (by decide) ?_
      refine lv_icmp_eq (tgt := 36) hx hb dX4_sheet_14 (by decide) (fun hc20 => ?_) (fun hc20 => ?_)
      · replace he := i_t hc20 he
        refine lv_iload_n hx hb dX4_sheet_36 rfl (lv_at hl 3 rfl) ?_
        refine lv_if_ge (tgt := 48) hx hb dX4_sheet_37 (by decide) (fun hc21 => ?_) (fun hc21 => ?_)
        · replace he := i_t hc21 he
          refine lv_iload_n hx hb dX4_sheet_48 rfl (lv_at hl 3 rfl) ?_
          refine lv_bipush (v := 40) hx hb dX4_sheet_49 (by decide) ?_
          refine lv_icmp_le (tgt := 61) hx hb dX4_sheet_51 (by decide) (fun hc22 => ?_) (fun hc22 => ?_)
          · replace he := i_t hc22 he
            refine lv_aload_n hx hb dX4_sheet_61 rfl (lv_at hl 0 rfl) ?_
            refine rgetf C hd (by decide) cM0 rfl tgX4 14 (by decide) tw715 rfl dX4_sheet_62 ?_
            refine lv_iload_n hx hb dX4_sheet_65 rfl (lv_at hl 1 rfl) ?_
            refine lv_iload_n hx hb dX4_sheet_66 rfl (lv_at hl 2 rfl) ?_
            replace he := g_some he
            obtain ⟨hi23, he⟩ := he
            replace he := bv_ex he
            obtain ⟨V24, e24, he⟩ := he
            refine riast (cell' := (cM G) V24) C hd (by decide) cMa7 hi23 (cMaw7 e24) (cM_ne e24) dX4_sheet_67 (fun H locs hd => ?_)
            refine lv_aload_n hx hb dX4_sheet_68 rfl (lv_at hl 0 rfl) ?_
            refine rgetf C hd (by decide) cM0 rfl tgX4 15 (by decide) tw716 rfl dX4_sheet_69 ?_
            refine lv_iload_n hx hb dX4_sheet_72 rfl (lv_at hl 1 rfl) ?_
            refine lv_iload_n hx hb dX4_sheet_73 rfl (lv_at hl 2 rfl) ?_
            refine lv_if_ne (tgt := 81) hx hb dX4_sheet_74 (by decide) (fun hc25 => ?_) (fun hc25 => ?_)
            · replace he := i_f hc25 he
              refine lv_iload_n hx hb dX4_sheet_81 rfl (lv_at hl 3 rfl) ?_
              replace he := g_some he
              obtain ⟨hi26, he⟩ := he
              replace he := bv_ex he
              obtain ⟨V27, e27, he⟩ := he
              refine riast (cell' := (cM G) V27) C hd (by decide) cMa8 hi26 (cMaw8 e27) (cM_ne e27) dX4_sheet_82 (fun H locs hd => ?_)
              refine lv_iconst (v := 0) hx hb dX4_sheet_83 (by decide) ?_
              refine lv_istore (lv' := [(4, .int _), (0, .ref _), (1, .int _), (2, .int _), (3, .int _)]) hx hb dX4_sheet_84 hl (by decide) rfl (fun ls hl => ?_)
              exact L86 200 _ _ _ _ _ _ (lv_sub hl [1, 2, 0] rfl) hd he
            · replace he := i_t hc25 he
              refine lv_iconst (v := 0) hx hb dX4_sheet_77 (by decide) ?_
              refine lv_goto (tgt := 82) hx hb dX4_sheet_78 (by decide) ?_
              replace he := g_some he
              obtain ⟨hi28, he⟩ := he
              replace he := bv_ex he
              obtain ⟨V29, e29, he⟩ := he
              refine riast (cell' := (cM G) V29) C hd (by decide) cMa8 hi28 (cMaw8 e29) (cM_ne e29) dX4_sheet_82 (fun H locs hd => ?_)
              refine lv_iconst (v := 0) hx hb dX4_sheet_83 (by decide) ?_
              refine lv_istore (lv' := [(4, .int _), (0, .ref _), (1, .int _), (2, .int _), (3, .int _)]) hx hb dX4_sheet_84 hl (by decide) rfl (fun ls hl => ?_)
              exact L86 200 _ _ _ _ _ _ (lv_sub hl [1, 2, 0] rfl) hd he
          · replace he := i_f hc22 he
            refine lv_aload_n hx hb dX4_sheet_54 rfl (lv_at hl 0 rfl) ?_
            refine lv_ldc hx hb hown (hts _ tw768) dX4_sheet_55 ?_
            replace he := b_some he
            obtain ⟨⟨r30, V30⟩, h30, he⟩ := he
            refine kVI C hd hl.1 kw_X4_66 (by decide) cM0 rfl (c_X4_finds l G hJ h30) ⟨Nat.le_of_ble_eq_true rfl, Nat.le_of_ble_eq_true rfl⟩ rfl (rest := []) rfl (Nat.le_of_ble_eq_true rfl) dX4_sheet_57 (fun H locs hd => ?_)
            exact retIe (cf := (cM G)) C hr hlk hd he dX4_sheet_60
        · replace he := i_f hc21 he
          refine lv_aload_n hx hb dX4_sheet_40 rfl (lv_at hl 0 rfl) ?_
          refine lv_ldcw hx hb hown (hts _ tw1108) dX4_sheet_41 ?_
          replace he := b_some he
          obtain ⟨⟨r31, V31⟩, h31, he⟩ := he
          refine kVI C hd hl.1 kw_X4_66 (by decide) cM0 rfl (c_X4_finds l G hJ h31) ⟨Nat.le_of_ble_eq_true rfl, Nat.le_of_ble_eq_true rfl⟩ rfl (rest := []) rfl (Nat.le_of_ble_eq_true rfl) dX4_sheet_44 (fun H locs hd => ?_)
          exact retIe (cf := (cM G)) C hr hlk hd he dX4_sheet_47
      · replace he := i_f hc20 he
        refine lv_iload_n hx hb dX4_sheet_17 rfl (lv_at hl 2 rfl) ?_
        refine lv_bipush (v := 16) hx hb dX4_sheet_18 (by decide) ?_
        refine lv_icmp_eq (tgt := 36) hx hb dX4_sheet_20 (by decide) (fun hc32 => ?_) (fun hc32 => ?_)
        · replace he := i_t hc32 he
          refine lv_iload_n hx hb dX4_sheet_36 rfl (lv_at hl 3 rfl) ?_
          refine lv_if_ge (tgt := 48) hx hb dX4_sheet_37 (by decide) (fun hc33 => ?_) (fun hc33 => ?_)
          · replace he := i_t hc33 he
            refine lv_iload_n hx hb dX4_sheet_48 rfl (lv_at hl 3 rfl) ?_
            refine lv_bipush (v := 40) hx hb dX4_sheet_49 (by decide) ?_
            refine lv_icmp_le (tgt := 61) hx hb dX4_sheet_51 (by decide) (fun hc34 => ?_) (fun hc34 => ?_)
            · replace he := i_t hc34 he
              refine lv_aload_n hx hb dX4_sheet_61 rfl (lv_at hl 0 rfl) ?_
              refine rgetf C hd (by decide) cM0 rfl tgX4 14 (by decide) tw715 rfl dX4_sheet_62 ?_
              refine lv_iload_n hx hb dX4_sheet_65 rfl (lv_at hl 1 rfl) ?_
              refine lv_iload_n hx hb dX4_sheet_66 rfl (lv_at hl 2 rfl) ?_
              replace he := g_some he
              obtain ⟨hi35, he⟩ := he
              replace he := bv_ex he
              obtain ⟨V36, e36, he⟩ := he
              refine riast (cell' := (cM G) V36) C hd (by decide) cMa7 hi35 (cMaw7 e36) (cM_ne e36) dX4_sheet_67 (fun H locs hd => ?_)
              refine lv_aload_n hx hb dX4_sheet_68 rfl (lv_at hl 0 rfl) ?_
              refine rgetf C hd (by decide) cM0 rfl tgX4 15 (by decide) tw716 rfl dX4_sheet_69 ?_
              refine lv_iload_n hx hb dX4_sheet_72 rfl (lv_at hl 1 rfl) ?_
              refine lv_iload_n hx hb dX4_sheet_73 rfl (lv_at hl 2 rfl) ?_
              refine lv_if_ne (tgt := 81) hx hb dX4_sheet_74 (by decide) (fun hc37 => ?_) (fun hc37 => ?_)
              · replace he := i_f hc37 he
                refine lv_iload_n hx hb dX4_sheet_81 rfl (lv_at hl 3 rfl) ?_
                replace he := g_some he
                obtain ⟨hi38, he⟩ := he
                replace he := bv_ex he
                obtain ⟨V39, e39, he⟩ := he
                refine riast (cell' := (cM G) V39) C hd (by decide) cMa8 hi38 (cMaw8 e39) (cM_ne e39) dX4_sheet_82 (fun H locs hd => ?_)
                refine lv_iconst (v := 0) hx hb dX4_sheet_83 (by decide) ?_
                refine lv_istore (lv' := [(4, .int _), (0, .ref _), (1, .int _), (2, .int _), (3, .int _)]) hx hb dX4_sheet_84 hl (by decide) rfl (fun ls hl => ?_)
                exact L86 200 _ _ _ _ _ _ (lv_sub hl [1, 2, 0] rfl) hd he
              · replace he := i_t hc37 he
                refine lv_iconst (v := 0) hx hb dX4_sheet_77 (by decide) ?_
                refine lv_goto (tgt := 82) hx hb dX4_sheet_78 (by decide) ?_
                replace he := g_some he
                obtain ⟨hi40, he⟩ := he
                replace he := bv_ex he
                obtain ⟨V41, e41, he⟩ := he
                refine riast (cell' := (cM G) V41) C hd (by decide) cMa8 hi40 (cMaw8 e41) (cM_ne e41) dX4_sheet_82 (fun H locs hd => ?_)
                refine lv_iconst (v := 0) hx hb dX4_sheet_83 (by decide) ?_
                refine lv_istore (lv' := [(4, .int _), (0, .ref _), (1, .int _), (2, .int _), (3, .int _)]) hx hb dX4_sheet_84 hl (by decide) rfl (fun ls hl => ?_)
                exact L86 200 _ _ _ _ _ _ (lv_sub hl [1, 2, 0] rfl) hd he
            · replace he := i_f hc34 he
              refine lv_aload_n hx hb dX4_sheet_54 rfl (lv_at hl 0 rfl) ?_
              refine lv_ldc hx hb hown (hts _ tw768) dX4_sheet_55 ?_
              replace he := b_some he
              obtain ⟨⟨r42, V42⟩, h42, he⟩ := he
              refine kVI C hd hl.1 kw_X4_66 (by decide) cM0 rfl (c_X4_finds l G hJ h42) ⟨Nat.le_of_ble_eq_true rfl, Nat.le_of_ble_eq_true rfl⟩ rfl (rest := []) rfl (Nat.le_of_ble_eq_true rfl) dX4_sheet_57 (fun H locs hd => ?_)
              exact retIe (cf := (cM G)) C hr hlk hd he dX4_sheet_60
          · replace he := i_f hc33 he
            refine lv_aload_n hx hb dX4_sheet_40 rfl (lv_at hl 0 rfl) ?_
            refine lv_ldcw hx hb hown (hts _ tw1108) dX4_sheet_41 ?_
            replace he := b_some he
            obtain ⟨⟨r43, V43⟩, h43, he⟩ := he
            refine kVI C hd hl.1 kw_X4_66 (by decide) cM0 rfl (c_X4_finds l G hJ h43) ⟨Nat.le_of_ble_eq_true rfl, Nat.le_of_ble_eq_true rfl⟩ rfl (rest := []) rfl (Nat.le_of_ble_eq_true rfl) dX4_sheet_44 (fun H locs hd => ?_)
            exact retIe (cf := (cM G)) C hr hlk hd he dX4_sheet_47
        · replace he := i_f hc32 he
          refine lv_iload_n hx hb dX4_sheet_23 rfl (lv_at hl 2 rfl) ?_
          refine lv_bipush (v := 64) hx hb dX4_sheet_24 (by decide) ?_
          refine lv_icmp_eq (tgt := 36) hx hb dX4_sheet_26 (by decide) (fun hc44 => ?_) (fun hc44 => ?_)
          · replace he := i_t hc44 he
            refine lv_iload_n hx hb dX4_sheet_36 rfl (lv_at hl 3 rfl) ?_
            refine lv_if_ge (tgt := 48) hx hb dX4_sheet_37 (by decide) (fun hc45 => ?_) (fun hc45 => ?_)
            · replace he := i_t hc45 he
              refine lv_iload_n hx hb dX4_sheet_48 rfl (lv_at hl 3 rfl) ?_
              refine lv_bipush (v := 40) hx hb dX4_sheet_49 (by decide) ?_
              refine lv_icmp_le (tgt := 61) hx hb dX4_sheet_51 (by decide) (fun hc46 => ?_) (fun hc46 => ?_)
              · replace he := i_t hc46 he
                refine lv_aload_n hx hb dX4_sheet_61 rfl (lv_at hl 0 rfl) ?_
                refine rgetf C hd (by decide) cM0 rfl tgX4 14 (by decide) tw715 rfl dX4_sheet_62 ?_
                refine lv_iload_n hx hb dX4_sheet_65 rfl (lv_at hl 1 rfl) ?_
                refine lv_iload_n hx hb dX4_sheet_66 rfl (lv_at hl 2 rfl) ?_
                replace he := g_some he
                obtain ⟨hi47, he⟩ := he
                replace he := bv_ex he
                obtain ⟨V48, e48, he⟩ := he
                refine riast (cell' := (cM G) V48) C hd (by decide) cMa7 hi47 (cMaw7 e48) (cM_ne e48) dX4_sheet_67 (fun H locs hd => ?_)
                refine lv_aload_n hx hb dX4_sheet_68 rfl (lv_at hl 0 rfl) ?_
                refine rgetf C hd (by decide) cM0 rfl tgX4 15 (by decide) tw716 rfl dX4_sheet_69 ?_
                refine lv_iload_n hx hb dX4_sheet_72 rfl (lv_at hl 1 rfl) ?_
                refine lv_iload_n hx hb dX4_sheet_73 rfl (lv_at hl 2 rfl) ?_
                refine lv_if_ne (tgt := 81) hx hb dX4_sheet_74 (by decide) (fun hc49 => ?_) (fun hc49 => ?_)
                · replace he := i_f hc49 he
                  refine lv_iload_n hx hb dX4_sheet_81 rfl (lv_at hl 3 rfl) ?_
                  replace he := g_some he
                  obtain ⟨hi50, he⟩ := he
                  replace he := bv_ex he
                  obtain ⟨V51, e51, he⟩ := he
                  refine riast (cell' := (cM G) V51) C hd (by decide) cMa8 hi50 (cMaw8 e51) (cM_ne e51) dX4_sheet_82 (fun H locs hd => ?_)
                  refine lv_iconst (v := 0) hx hb dX4_sheet_83 (by decide) ?_
                  refine lv_istore (lv' := [(4, .int _), (0, .ref _), (1, .int _), (2, .int _), (3, .int _)]) hx hb dX4_sheet_84 hl (by decide) rfl (fun ls hl => ?_)
                  exact L86 200 _ _ _ _ _ _ (lv_sub hl [1, 2, 0] rfl) hd he
                · replace he := i_t hc49 he
                  refine lv_iconst (v := 0) hx hb dX4_sheet_77 (by decide) ?_
                  refine lv_goto (tgt := 82) hx hb dX4_sheet_78 (by decide) ?_
                  replace he := g_some he
                  obtain ⟨hi52, he⟩ := he
                  replace he := bv_ex he
                  obtain ⟨V53, e53, he⟩ := he
                  refine riast (cell' := (cM G) V53) C hd (by decide) cMa8 hi52 (cMaw8 e53) (cM_ne e53) dX4_sheet_82 (fun H locs hd => ?_)
                  refine lv_iconst (v := 0) hx hb dX4_sheet_83 (by decide) ?_
                  refine lv_istore (lv' := [(4, .int _), (0, .ref _), (1, .int _), (2, .int _), (3, .int _)]) hx hb dX4_sheet_84 hl (by decide) rfl (fun ls hl => ?_)
                  exact L86 200 _ _ _ _ _ _ (lv_sub hl [1, 2, 0] rfl) hd he
              · replace he := i_f hc46 he
                refine lv_aload_n hx hb dX4_sheet_54 rfl (lv_at hl 0 rfl) ?_
                refine lv_ldc hx hb hown (hts _ tw768) dX4_sheet_55 ?_
                replace he := b_some he
                obtain ⟨⟨r54, V54⟩, h54, he⟩ := he
                refine kVI C hd hl.1 kw_X4_66 (by decide) cM0 rfl (c_X4_finds l G hJ h54) ⟨Nat.le_of_ble_eq_true rfl, Nat.le_of_ble_eq_true rfl⟩ rfl (rest := []) rfl (Nat.le_of_ble_eq_true rfl) dX4_sheet_57 (fun H locs hd => ?_)
                exact retIe (cf := (cM G)) C hr hlk hd he dX4_sheet_60
            · replace he := i_f hc45 he
              refine lv_aload_n hx hb dX4_sheet_40 rfl (lv_at hl 0 rfl) ?_
              refine lv_ldcw hx hb hown (hts _ tw1108) dX4_sheet_41 ?_
              replace he := b_some he
              obtain ⟨⟨r55, V55⟩, h55, he⟩ := he
              refine kVI C hd hl.1 kw_X4_66 (by decide) cM0 rfl (c_X4_finds l G hJ h55) ⟨Nat.le_of_ble_eq_true rfl, Nat.le_of_ble_eq_true rfl⟩ rfl (rest := []) rfl (Nat.le_of_ble_eq_true rfl) dX4_sheet_44 (fun H locs hd => ?_)
              exact retIe (cf := (cM G)) C hr hlk hd he dX4_sheet_47
          · replace he := i_f hc44 he
            refine lv_aload_n hx hb dX4_sheet_29 rfl (lv_at hl 0 rfl) ?_
            refine lv_ldc hx hb hown (hts _ tw768) dX4_sheet_30 ?_
            replace he := b_some he
            obtain ⟨⟨r56, V56⟩, h56, he⟩ := he
            refine kVI C hd hl.1 kw_X4_66 (by decide) cM0 rfl (c_X4_finds l G hJ h56) ⟨Nat.le_of_ble_eq_true rfl, Nat.le_of_ble_eq_true rfl⟩ rfl (rest := []) rfl (Nat.le_of_ble_eq_true rfl) dX4_sheet_32 (fun H locs hd => ?_)
            exact retIe (cf := (cM G)) C hr hlk hd he dX4_sheet_35
set_option maxRecDepth 100000 in
set_option maxHeartbeats 4000000 in
theorem c_X4_narrowed (l : Launch) (G : Gd) (hJ : Inj 11 G.2.2) {a1 : Int32} {a2 : Int64} {V V' : VV} {r : Int64} (he : f_X4_narrowed a1 a2 V = some (r, V')) : MJ l 11 G XM yX4_narrowed cX4_narrowed 3 0 0 [.int a1, .long a2] (cM G V) (cM G V') r := by
  refine walk_of (own := RX4) (by decide) rfl hJ (xs_M G) (Nat.le_of_ble_eq_true rfl) ?_
  intro p e s m below meth c C hr hlk ls hl hd
  have hl : lv_has ls 3 [(0, .int a1), (1, .long a2)] := hl
  obtain ⟨⟨hx, hb, hml, hown, hts⟩, -⟩ := id C
  unfold f_X4_narrowed at he
  refine lv_iload_n hx hb dX4_narrowed_0 rfl (lv_at hl 0 rfl) ?_
  refine lv_bipush (v := 8) hx hb dX4_narrowed_1 (by decide) ?_
  refine lv_icmp_ne (tgt := 13) hx hb dX4_narrowed_3 (by decide) (fun hc1 => ?_) (fun hc1 => ?_)
  · replace he := i_f hc1 he
    refine lv_iload_n hx hb dX4_narrowed_13 rfl (lv_at hl 0 rfl) ?_
    refine lv_bipush (v := 16) hx hb dX4_narrowed_14 (by decide) ?_
    refine lv_icmp_ne (tgt := 26) hx hb dX4_narrowed_16 (by decide) (fun hc2 => ?_) (fun hc2 => ?_)
    · replace he := i_f hc2 he
      refine lv_lload_n hx hb dX4_narrowed_26 rfl (lv_at hl 1 rfl) ?_
      exact retJe (cf := (cM G)) C hr hlk hd he dX4_narrowed_27
    · replace he := i_t hc2 he
      refine lv_lload_n hx hb dX4_narrowed_19 rfl (lv_at hl 1 rfl) ?_
      refine lv_l2i hx hb dX4_narrowed_20 rfl ?_
      refine lv_i2s hx hb dX4_narrowed_21 rfl ?_
      refine lv_i2l hx hb dX4_narrowed_22 rfl ?_
      refine lv_goto (tgt := 27) hx hb dX4_narrowed_23 (by decide) ?_
      exact retJe (cf := (cM G)) C hr hlk hd he dX4_narrowed_27
  · replace he := i_t hc1 he
    refine lv_lload_n hx hb dX4_narrowed_6 rfl (lv_at hl 1 rfl) ?_
    refine lv_l2i hx hb dX4_narrowed_7 rfl ?_
    refine lv_i2b hx hb dX4_narrowed_8 rfl ?_
    refine lv_i2l hx hb dX4_narrowed_9 rfl ?_
    refine lv_goto (tgt := 27) hx hb dX4_narrowed_10 (by decide) ?_
    exact retJe (cf := (cM G)) C hr hlk hd he dX4_narrowed_27
set_option maxRecDepth 100000 in
set_option maxHeartbeats 4000000 in
theorem c_X4_wrongSheet (l : Launch) (G : Gd) (hJ : Inj 11 G.2.2) {a1 : Int32} {V V' : VV} {r : Int32} (he : f_X4_wrongSheet a1 V = some (r, V')) : MI l 11 G XM yX4_wrongSheet cX4_wrongSheet 2 2 45 [.ref (G.2.2 0), .int a1] (cM G V) (cM G V') r := by
  refine walk_of (own := RX4) (by decide) rfl hJ (xs_M G) (Nat.le_of_ble_eq_true rfl) ?_
  intro p e s m below meth c C hr hlk ls hl hd
  have hl : lv_has ls 2 [(0, .ref (G.2.2 0)), (1, .int a1)] := hl
  obtain ⟨⟨hx, hb, hml, hown, hts⟩, -⟩ := id C
  unfold f_X4_wrongSheet at he
  refine lv_iload_n hx hb dX4_wrongSheet_0 rfl (lv_at hl 1 rfl) ?_
  replace he := b_some he
  obtain ⟨⟨r1, V1⟩, h1, he⟩ := he
  refine kSZ C hd hl.1 kw_X4_302 (c_X4_isOne l G hJ h1) ⟨Nat.le_of_ble_eq_true rfl, Nat.le_of_ble_eq_true rfl⟩ rfl (rest := []) rfl (Nat.le_of_ble_eq_true rfl) dX4_wrongSheet_1 (fun H locs hz1 hd => ?_)
  refine lv_if_ne (tgt := 12) hx hb dX4_wrongSheet_4 (by decide) (fun hc2 => ?_) (fun hc2 => ?_)
  · replace he := i_f hc2 he
    refine lv_aload_n hx hb dX4_wrongSheet_12 rfl (lv_at hl 0 rfl) ?_
    refine rgetf C hd (by decide) cM0 rfl tgX4 14 (by decide) tw715 rfl dX4_wrongSheet_13 ?_
    refine lv_iload_n hx hb dX4_wrongSheet_16 rfl (lv_at hl 1 rfl) ?_
    replace he := g_some he
    obtain ⟨hi3, he⟩ := he
    refine riald C hd (by decide) cMa7 hi3 dX4_wrongSheet_17 ?_
    refine lv_if_ne (tgt := 27) hx hb dX4_wrongSheet_18 (by decide) (fun hc4 => ?_) (fun hc4 => ?_)
    · replace he := i_f hc4 he
      refine lv_iconst (v := 0) hx hb dX4_wrongSheet_27 (by decide) ?_
      exact retIe (cf := (cM G)) C hr hlk hd he dX4_wrongSheet_28
    · replace he := i_t hc4 he
      refine lv_ldcw hx hb hown (hts _ tw1117) dX4_wrongSheet_21 ?_
      refine lv_goto (tgt := 28) hx hb dX4_wrongSheet_24 (by decide) ?_
      exact retIe (cf := (cM G)) C hr hlk hd he dX4_wrongSheet_28
  · replace he := i_t hc2 he
    refine lv_ldc hx hb hown (hts _ tw768) dX4_wrongSheet_7 ?_
    refine lv_goto (tgt := 28) hx hb dX4_wrongSheet_9 (by decide) ?_
    exact retIe (cf := (cM G)) C hr hlk hd he dX4_wrongSheet_28
set_option maxRecDepth 100000 in
set_option maxHeartbeats 4000000 in
theorem c_X4_write (l : Launch) (G : Gd) (hJ : Inj 11 G.2.2) {a1 : Int32} {a2 : Int32} {a3 : Int64} {V V' : VV} {r : Int64} (he : f_X4_write a1 a2 a3 V = some (r, V')) : MJ l 11 G XM yX4_write cX4_write 8 3 66 [.ref (G.2.2 0), .int a1, .int a2, .long a3] (cM G V) (cM G V') r := by
  refine walk_of (own := RX4) (by decide) rfl hJ (xs_M G) (Nat.le_of_ble_eq_true rfl) ?_
  intro p e s m below meth c C hr hlk ls hl hd
  have hl : lv_has ls 8 [(0, .ref (G.2.2 0)), (1, .int a1), (2, .int a2), (3, .long a3)] := hl
  obtain ⟨⟨hx, hb, hml, hown, hts⟩, -⟩ := id C
  unfold f_X4_write at he
  refine lv_aload_n hx hb dX4_write_0 rfl (lv_at hl 0 rfl) ?_
  refine lv_iload_n hx hb dX4_write_1 rfl (lv_at hl 1 rfl) ?_
  replace he := b_some he
  obtain ⟨⟨r1, V1⟩, h1, he⟩ := he
  refine kVI C hd hl.1 kw_X4_307 (by decide) cM0 rfl (c_X4_wrongSheet l G hJ h1) ⟨Nat.le_of_ble_eq_true rfl, Nat.le_of_ble_eq_true rfl⟩ rfl (rest := []) rfl (Nat.le_of_ble_eq_true rfl) dX4_write_2 (fun H locs hd => ?_)
  refine lv_istore (lv' := [(5, .int _), (0, .ref _), (1, .int _), (2, .int _), (3, .long _)]) hx hb dX4_write_5 hl (by decide) rfl (fun ls hl => ?_)
  refine lv_iload hx hb dX4_write_7 (lv_at hl 0 rfl) ?_
  refine lv_if_eq (tgt := 20) hx hb dX4_write_9 (by decide) (fun hc2 => ?_) (fun hc2 => ?_)
  · replace he := i_t hc2 he
    refine lv_iload_n hx hb dX4_write_20 rfl (lv_at hl 3 rfl) ?_
    refine lv_i2l hx hb dX4_write_21 rfl ?_
    refine lv_lconst (v := 0) hx hb dX4_write_22 (by decide) ?_
    refine lv_aload_n hx hb dX4_write_23 rfl (lv_at hl 1 rfl) ?_
    refine rgetf C hd (by decide) cM0 rfl tgX4 15 (by decide) tw716 rfl dX4_write_24 ?_
    refine lv_iload_n hx hb dX4_write_27 rfl (lv_at hl 2 rfl) ?_
    replace he := g_some he
    obtain ⟨hi3, he⟩ := he
    refine riald C hd (by decide) cMa8 hi3 dX4_write_28 ?_
    refine lv_iconst (v := 1) hx hb dX4_write_29 (by decide) ?_
    refine lv_isub hx hb dX4_write_30 ?_
    refine lv_i2l hx hb dX4_write_31 rfl ?_
    replace he := b_some he
    obtain ⟨⟨r4, V4⟩, h4, he⟩ := he
    refine kSZ C hd hl.1 kw_X4_44 (c_X4_in l G hJ h4) ⟨Nat.le_of_ble_eq_true rfl, Nat.le_of_ble_eq_true rfl⟩ rfl (rest := []) rfl (Nat.le_of_ble_eq_true rfl) dX4_write_32 (fun H locs hz4 hd => ?_)
    refine lv_if_ne (tgt := 46) hx hb dX4_write_35 (by decide) (fun hc5 => ?_) (fun hc5 => ?_)
    · replace he := i_f hc5 he
      refine lv_aload_n hx hb dX4_write_46 rfl (lv_at hl 1 rfl) ?_
      refine rgetf C hd (by decide) cM0 rfl tgX4 16 (by decide) tw717 rfl dX4_write_47 ?_
      refine lv_bipush (v := 40) hx hb dX4_write_50 (by decide) ?_
      refine lv_iload_n hx hb dX4_write_52 rfl (lv_at hl 2 rfl) ?_
      refine lv_imul hx hb dX4_write_53 ?_
      refine lv_iload_n hx hb dX4_write_54 rfl (lv_at hl 3 rfl) ?_
      refine lv_iadd hx hb dX4_write_55 ?_
      replace he := g_some he
      obtain ⟨hi6, he⟩ := he
      refine rlald C hd (by decide) cMa9 hi6 dX4_write_56 ?_
      refine lv_lstore (lv' := [(6, .long _), (5, .int _), (0, .ref _), (1, .int _), (2, .int _), (3, .long _)]) hx hb dX4_write_57 hl (by decide) rfl (fun ls hl => ?_)
      refine lv_aload_n hx hb dX4_write_59 rfl (lv_at hl 2 rfl) ?_
      refine rgetf C hd (by decide) cM0 rfl tgX4 16 (by decide) tw717 rfl dX4_write_60 ?_
      refine lv_bipush (v := 40) hx hb dX4_write_63 (by decide) ?_
      refine lv_iload_n hx hb dX4_write_65 rfl (lv_at hl 3 rfl) ?_
      refine lv_imul hx hb dX4_write_66 ?_
      refine lv_iload_n hx hb dX4_write_67 rfl (lv_at hl 4 rfl) ?_
      refine lv_iadd hx hb dX4_write_68 ?_
      refine lv_aload_n hx hb dX4_write_69 rfl (lv_at hl 2 rfl) ?_
      refine rgetf C hd (by decide) cM0 rfl tgX4 14 (by decide) tw715 rfl dX4_write_70 ?_
      refine lv_iload_n hx hb dX4_write_73 rfl (lv_at hl 3 rfl) ?_
      replace he := g_some he
      obtain ⟨hi7, he⟩ := he
      refine riald C hd (by decide) cMa7 hi7 dX4_write_74 ?_
      refine lv_lload_n hx hb dX4_write_75 rfl (lv_at hl 5 rfl) ?_
      replace he := b_some he
      obtain ⟨⟨r8, V8⟩, h8, he⟩ := he
      refine kSJ C hd hl.1 kw_X4_310 (c_X4_narrowed l G hJ h8) ⟨Nat.le_of_ble_eq_true rfl, Nat.le_of_ble_eq_true rfl⟩ rfl (rest := [.int _, .ref _]) rfl (Nat.le_of_ble_eq_true rfl) dX4_write_76 (fun H locs hd => ?_)
      replace he := g_some he
      obtain ⟨hi9, he⟩ := he
      replace he := bv_ex he
      obtain ⟨V10, e10, he⟩ := he
      refine rlast (cell' := (cM G) V10) C hd (by decide) cMa9 hi9 (cMaw9 e10) (cM_neJ e10) dX4_write_79 (fun H locs hd => ?_)
      refine lv_lload hx hb dX4_write_80 (lv_at hl 0 rfl) ?_
      exact retJe (cf := (cM G)) C hr hlk hd he dX4_write_82
    · replace he := i_t hc5 he
      refine lv_aload_n hx hb dX4_write_38 rfl (lv_at hl 1 rfl) ?_
      refine lv_ldc hx hb hown (hts _ tw768) dX4_write_39 ?_
      replace he := b_some he
      obtain ⟨⟨r11, V11⟩, h11, he⟩ := he
      refine kVI C hd hl.1 kw_X4_66 (by decide) cM0 rfl (c_X4_finds l G hJ h11) ⟨Nat.le_of_ble_eq_true rfl, Nat.le_of_ble_eq_true rfl⟩ rfl (rest := []) rfl (Nat.le_of_ble_eq_true rfl) dX4_write_41 (fun H locs hd => ?_)
      refine lv_i2l hx hb dX4_write_44 rfl ?_
      exact retJe (cf := (cM G)) C hr hlk hd he dX4_write_45
  · replace he := i_f hc2 he
    refine lv_aload_n hx hb dX4_write_12 rfl (lv_at hl 1 rfl) ?_
    refine lv_iload hx hb dX4_write_13 (lv_at hl 0 rfl) ?_
    replace he := b_some he
    obtain ⟨⟨r12, V12⟩, h12, he⟩ := he
    refine kVI C hd hl.1 kw_X4_66 (by decide) cM0 rfl (c_X4_finds l G hJ h12) ⟨Nat.le_of_ble_eq_true rfl, Nat.le_of_ble_eq_true rfl⟩ rfl (rest := []) rfl (Nat.le_of_ble_eq_true rfl) dX4_write_15 (fun H locs hd => ?_)
    refine lv_i2l hx hb dX4_write_18 rfl ?_
    exact retJe (cf := (cM G)) C hr hlk hd he dX4_write_19
set_option maxRecDepth 100000 in
set_option maxHeartbeats 4000000 in
theorem c_X4_copy (l : Launch) (G : Gd) (hJ : Inj 11 G.2.2) {a1 : Int32} {a2 : Int32} {a3 : Int32} {a4 : Int32} {a5 : Int32} {V V' : VV} {r : Int32} (he : f_X4_copy a1 a2 a3 a4 a5 V = some (r, V')) : MI l 11 G XM yX4_copy cX4_copy 7 2 45 [.ref (G.2.2 0), .int a1, .int a2, .int a3, .int a4, .int a5] (cM G V) (cM G V') r := by
  refine walk_of (own := RX4) (by decide) rfl hJ (xs_M G) (Nat.le_of_ble_eq_true rfl) ?_
  intro p e s m below meth c C hr hlk ls hl hd
  have hl : lv_has ls 7 [(0, .ref (G.2.2 0)), (1, .int a1), (2, .int a2), (3, .int a3), (4, .int a4), (5, .int a5)] := hl
  obtain ⟨⟨hx, hb, hml, hown, hts⟩, -⟩ := id C
  have L157 : ∀ (fuel : Nat) (x3 : Int32) (x4 : Int32) (x5 : Int32) (x6 : Int32) (V : VV) (H : Heap) (locs : List Loc) (ls : Array Slot), lv_has ls 7 [(0, .ref (G.2.2 0)), (3, .int x3), (4, .int x4), (5, .int x5), (6, .int x6)] → Dy 11 G (cM G V) s H locs → f_X4_copy_L157 fuel x3 x4 x5 x6 V = some (r, V') → W p l e (rmF 2 45) s m ([.ref (G.2.2 0), .int a1, .int a2, .int a3, .int a4, .int a5] : List Value).toArray below meth c H locs 0 0 (MQ below (QI 11 G (cM G V') (fun r' => r' = r)) ([.ref (G.2.2 0), .int a1, .int a2, .int a3, .int a4, .int a5] : List Value).toArray s 0 0 (inA 11 G.2.2)) (F0 m 157 ls []) := by
    intro fuel
    induction fuel with
    | zero => intro x3 x4 x5 x6 V H locs ls hl hd he; simp [f_X4_copy_L157] at he
    | succ n ih157 =>
      intro x3 x4 x5 x6 V H locs ls hl hd he
      rw [f_X4_copy_L157] at he
      refine lv_iload hx hb dX4_copy_157 (lv_at hl 4 rfl) ?_
      refine lv_iload hx hb dX4_copy_159 (lv_at hl 3 rfl) ?_
      refine lv_icmp_ge (tgt := 192) hx hb dX4_copy_161 (by decide) (fun hc26 => ?_) (fun hc26 => ?_)
      · replace he := i_t hc26 he
        refine lv_iload hx hb dX4_copy_192 (lv_at hl 3 rfl) ?_
        exact retIe (cf := (cM G)) C hr hlk hd he dX4_copy_194
      · replace he := i_f hc26 he
        refine lv_aload_n hx hb dX4_copy_164 rfl (lv_at hl 0 rfl) ?_
        refine rgetf C hd (by decide) cM0 rfl tgX4 16 (by decide) tw717 rfl dX4_copy_165 ?_
        refine lv_bipush (v := 40) hx hb dX4_copy_168 (by decide) ?_
        refine lv_iload_n hx hb dX4_copy_170 rfl (lv_at hl 1 rfl) ?_
        refine lv_imul hx hb dX4_copy_171 ?_
        refine lv_iload hx hb dX4_copy_172 (lv_at hl 2 rfl) ?_
        refine lv_iadd hx hb dX4_copy_174 ?_
        refine lv_iload hx hb dX4_copy_175 (lv_at hl 4 rfl) ?_
        refine lv_iadd hx hb dX4_copy_177 ?_
        refine lv_aload_n hx hb dX4_copy_178 rfl (lv_at hl 0 rfl) ?_
        refine rgetf C hd (by decide) cM0 rfl tgX4 17 (by decide) tw718 rfl dX4_copy_179 ?_
        refine lv_iload hx hb dX4_copy_182 (lv_at hl 4 rfl) ?_
        replace he := g_some he
        obtain ⟨hi27, he⟩ := he
        refine rlald C hd (by decide) cMa10 hi27 dX4_copy_184 ?_
        replace he := g_some he
        obtain ⟨hi28, he⟩ := he
        replace he := bv_ex he
        obtain ⟨V29, e29, he⟩ := he
        refine rlast (cell' := (cM G) V29) C hd (by decide) cMa9 hi28 (cMaw9 e29) (cM_neJ e29) dX4_copy_185 (fun H locs hd => ?_)
        refine lv_iinc (v := _ + 1) (lv' := [(6, .int _), (0, .ref _), (3, .int _), (4, .int _), (5, .int _)]) hx hb dX4_copy_186 hl (k := 4) rfl rfl (by decide) rfl (fun ls hl => ?_)
        refine lv_goto (tgt := 157) hx hb dX4_copy_189 (by decide) ?_
        exact ih157 _ _ _ _ _ _ _ _ (lv_sub hl [1, 2, 3, 4, 0] rfl) hd he
  have L120 : ∀ (fuel : Nat) (x1 : Int32) (x2 : Int32) (x3 : Int32) (x4 : Int32) (x5 : Int32) (x6 : Int32) (V : VV) (H : Heap) (locs : List Loc) (ls : Array Slot), lv_has ls 7 [(0, .ref (G.2.2 0)), (1, .int x1), (2, .int x2), (3, .int x3), (4, .int x4), (5, .int x5), (6, .int x6)] → Dy 11 G (cM G V) s H locs → f_X4_copy_L120 fuel x1 x2 x3 x4 x5 x6 V = some (r, V') → W p l e (rmF 2 45) s m ([.ref (G.2.2 0), .int a1, .int a2, .int a3, .int a4, .int a5] : List Value).toArray below meth c H locs 0 0 (MQ below (QI 11 G (cM G V') (fun r' => r' = r)) ([.ref (G.2.2 0), .int a1, .int a2, .int a3, .int a4, .int a5] : List Value).toArray s 0 0 (inA 11 G.2.2)) (F0 m 120 ls []) := by
    intro fuel
    induction fuel with
    | zero => intro x1 x2 x3 x4 x5 x6 V H locs ls hl hd he; simp [f_X4_copy_L120] at he
    | succ n ih120 =>
      intro x1 x2 x3 x4 x5 x6 V H locs ls hl hd he
      rw [f_X4_copy_L120] at he
      refine lv_iload hx hb dX4_copy_120 (lv_at hl 6 rfl) ?_
      refine lv_iload hx hb dX4_copy_122 (lv_at hl 5 rfl) ?_
      refine lv_icmp_ge (tgt := 154) hx hb dX4_copy_124 (by decide) (fun hc25 => ?_) (fun hc25 => ?_)
      · replace he := i_t hc25 he
        refine lv_iconst (v := 0) hx hb dX4_copy_154 (by decide) ?_
        refine lv_istore (lv' := [(6, .int _), (0, .ref _), (1, .int _), (2, .int _), (3, .int _), (4, .int _), (5, .int _)]) hx hb dX4_copy_155 hl (by decide) rfl (fun ls hl => ?_)
        exact L157 200 _ _ _ _ _ _ _ _ (lv_sub hl [1, 4, 5, 6, 0] rfl) hd he
      · replace he := i_f hc25 he
        refine lv_aload_n hx hb dX4_copy_127 rfl (lv_at hl 0 rfl) ?_
        refine rgetf C hd (by decide) cM0 rfl tgX4 17 (by decide) tw718 rfl dX4_copy_128 ?_
        refine lv_iload hx hb dX4_copy_131 (lv_at hl 6 rfl) ?_
        refine lv_aload_n hx hb dX4_copy_133 rfl (lv_at hl 0 rfl) ?_
        refine rgetf C hd (by decide) cM0 rfl tgX4 16 (by decide) tw717 rfl dX4_copy_134 ?_
        refine lv_bipush (v := 40) hx hb dX4_copy_137 (by decide) ?_
        refine lv_iload_n hx hb dX4_copy_139 rfl (lv_at hl 1 rfl) ?_
        refine lv_imul hx hb dX4_copy_140 ?_
        refine lv_iload_n hx hb dX4_copy_141 rfl (lv_at hl 2 rfl) ?_
        refine lv_iadd hx hb dX4_copy_142 ?_
        refine lv_iload hx hb dX4_copy_143 (lv_at hl 6 rfl) ?_
        refine lv_iadd hx hb dX4_copy_145 ?_
        replace he := g_some he
        obtain ⟨hi30, he⟩ := he
        refine rlald C hd (by decide) cMa9 hi30 dX4_copy_146 ?_
        replace he := g_some he
        obtain ⟨hi31, he⟩ := he
        replace he := bv_ex he
        obtain ⟨V32, e32, he⟩ := he
        refine rlast (cell' := (cM G) V32) C hd (by decide) cMa10 hi31 (cMaw10 e32) (cM_neJ e32) dX4_copy_147 (fun H locs hd => ?_)
        refine lv_iinc (v := _ + 1) (lv' := [(6, .int _), (0, .ref _), (1, .int _), (2, .int _), (3, .int _), (4, .int _), (5, .int _)]) hx hb dX4_copy_148 hl (k := 6) rfl rfl (by decide) rfl (fun ls hl => ?_)
        refine lv_goto (tgt := 120) hx hb dX4_copy_151 (by decide) ?_
        exact ih120 _ _ _ _ _ _ _ _ _ _ (lv_sub hl [1, 2, 3, 4, 5, 6, 0] rfl) hd he
  unfold f_X4_copy at he
  refine lv_iload_n hx hb dX4_copy_0 rfl (lv_at hl 1 rfl) ?_
  replace he := b_some he
  obtain ⟨⟨r1, V1⟩, h1, he⟩ := he
  refine kSZ C hd hl.1 kw_X4_302 (c_X4_isOne l G hJ h1) ⟨Nat.le_of_ble_eq_true rfl, Nat.le_of_ble_eq_true rfl⟩ rfl (rest := []) rfl (Nat.le_of_ble_eq_true rfl) dX4_copy_1 (fun H locs hz1 hd => ?_)
  refine lv_if_eq (tgt := 14) hx hb dX4_copy_4 (by decide) (fun hc2 => ?_) (fun hc2 => ?_)
  · replace he := i_t hc2 he
    refine lv_aload_n hx hb dX4_copy_14 rfl (lv_at hl 0 rfl) ?_
    refine lv_ldc hx hb hown (hts _ tw768) dX4_copy_15 ?_
    replace he := b_some he
    obtain ⟨⟨r3, V3⟩, h3, he⟩ := he
    refine kVI C hd hl.1 kw_X4_66 (by decide) cM0 rfl (c_X4_finds l G hJ h3) ⟨Nat.le_of_ble_eq_true rfl, Nat.le_of_ble_eq_true rfl⟩ rfl (rest := []) rfl (Nat.le_of_ble_eq_true rfl) dX4_copy_17 (fun H locs hd => ?_)
    exact retIe (cf := (cM G)) C hr hlk hd he dX4_copy_20
  · replace he := i_f hc2 he
    refine lv_iload_n hx hb dX4_copy_7 rfl (lv_at hl 3 rfl) ?_
    replace he := b_some he
    obtain ⟨⟨r4, V4⟩, h4, he⟩ := he
    refine kSZ C hd hl.1 kw_X4_302 (c_X4_isOne l G hJ h4) ⟨Nat.le_of_ble_eq_true rfl, Nat.le_of_ble_eq_true rfl⟩ rfl (rest := []) rfl (Nat.le_of_ble_eq_true rfl) dX4_copy_8 (fun H locs hz4 hd => ?_)
    refine lv_if_ne (tgt := 21) hx hb dX4_copy_11 (by decide) (fun hc5 => ?_) (fun hc5 => ?_)
    · replace he := i_f hc5 he
      refine lv_aload_n hx hb dX4_copy_21 rfl (lv_at hl 0 rfl) ?_
      refine rgetf C hd (by decide) cM0 rfl tgX4 14 (by decide) tw715 rfl dX4_copy_22 ?_
      refine lv_iload_n hx hb dX4_copy_25 rfl (lv_at hl 1 rfl) ?_
      replace he := g_some he
      obtain ⟨hi6, he⟩ := he
      refine riald C hd (by decide) cMa7 hi6 dX4_copy_26 ?_
      refine lv_if_eq (tgt := 39) hx hb dX4_copy_27 (by decide) (fun hc7 => ?_) (fun hc7 => ?_)
      · replace he := i_t hc7 he
        refine lv_aload_n hx hb dX4_copy_39 rfl (lv_at hl 0 rfl) ?_
        refine lv_ldcw hx hb hown (hts _ tw1117) dX4_copy_40 ?_
        replace he := b_some he
        obtain ⟨⟨r8, V8⟩, h8, he⟩ := he
        refine kVI C hd hl.1 kw_X4_66 (by decide) cM0 rfl (c_X4_finds l G hJ h8) ⟨Nat.le_of_ble_eq_true rfl, Nat.le_of_ble_eq_true rfl⟩ rfl (rest := []) rfl (Nat.le_of_ble_eq_true rfl) dX4_copy_43 (fun H locs hd => ?_)
        exact retIe (cf := (cM G)) C hr hlk hd he dX4_copy_46
      · replace he := i_f hc7 he
        refine lv_aload_n hx hb dX4_copy_30 rfl (lv_at hl 0 rfl) ?_
        refine rgetf C hd (by decide) cM0 rfl tgX4 14 (by decide) tw715 rfl dX4_copy_31 ?_
        refine lv_iload_n hx hb dX4_copy_34 rfl (lv_at hl 3 rfl) ?_
        replace he := g_some he
        obtain ⟨hi9, he⟩ := he
        refine riald C hd (by decide) cMa7 hi9 dX4_copy_35 ?_
        refine lv_if_ne (tgt := 47) hx hb dX4_copy_36 (by decide) (fun hc10 => ?_) (fun hc10 => ?_)
        · replace he := i_f hc10 he
          refine lv_aload_n hx hb dX4_copy_47 rfl (lv_at hl 0 rfl) ?_
          refine rgetf C hd (by decide) cM0 rfl tgX4 14 (by decide) tw715 rfl dX4_copy_48 ?_
          refine lv_iload_n hx hb dX4_copy_51 rfl (lv_at hl 1 rfl) ?_
          replace he := g_some he
          obtain ⟨hi11, he⟩ := he
          refine riald C hd (by decide) cMa7 hi11 dX4_copy_52 ?_
          refine lv_aload_n hx hb dX4_copy_53 rfl (lv_at hl 0 rfl) ?_
          refine rgetf C hd (by decide) cM0 rfl tgX4 14 (by decide) tw715 rfl dX4_copy_54 ?_
          refine lv_iload_n hx hb dX4_copy_57 rfl (lv_at hl 3 rfl) ?_
          replace he := g_some he
          obtain ⟨hi12, he⟩ := he
          refine riald C hd (by decide) cMa7 hi12 dX4_copy_58 ?_
          refine lv_icmp_eq (tgt := 69) hx hb dX4_copy_59 (by decide) (fun hc13 => ?_) (fun hc13 => ?_)
          · replace he := i_t hc13 he
            refine lv_iload_n hx hb dX4_copy_69 rfl (lv_at hl 2 rfl) ?_
            refine lv_if_lt (tgt := 110) hx hb dX4_copy_70 (by decide) (fun hc14 => ?_) (fun hc14 => ?_)
            · replace he := i_t hc14 he
              refine lv_aload_n hx hb dX4_copy_110 rfl (lv_at hl 0 rfl) ?_
              refine lv_ldc hx hb hown (hts _ tw768) dX4_copy_111 ?_
              replace he := b_some he
              obtain ⟨⟨r15, V15⟩, h15, he⟩ := he
              refine kVI C hd hl.1 kw_X4_66 (by decide) cM0 rfl (c_X4_finds l G hJ h15) ⟨Nat.le_of_ble_eq_true rfl, Nat.le_of_ble_eq_true rfl⟩ rfl (rest := []) rfl (Nat.le_of_ble_eq_true rfl) dX4_copy_113 (fun H locs hd => ?_)
              exact retIe (cf := (cM G)) C hr hlk hd he dX4_copy_116
            · replace he := i_f hc14 he
              refine lv_iload hx hb dX4_copy_73 (lv_at hl 4 rfl) ?_
              refine lv_if_lt (tgt := 110) hx hb dX4_copy_75 (by decide) (fun hc16 => ?_) (fun hc16 => ?_)
              · replace he := i_t hc16 he
                refine lv_aload_n hx hb dX4_copy_110 rfl (lv_at hl 0 rfl) ?_
                refine lv_ldc hx hb hown (hts _ tw768) dX4_copy_111 ?_
                replace he := b_some he
                obtain ⟨⟨r17, V17⟩, h17, he⟩ := he
                refine kVI C hd hl.1 kw_X4_66 (by decide) cM0 rfl (c_X4_finds l G hJ h17) ⟨Nat.le_of_ble_eq_true rfl, Nat.le_of_ble_eq_true rfl⟩ rfl (rest := []) rfl (Nat.le_of_ble_eq_true rfl) dX4_copy_113 (fun H locs hd => ?_)
                exact retIe (cf := (cM G)) C hr hlk hd he dX4_copy_116
              · replace he := i_f hc16 he
                refine lv_iload hx hb dX4_copy_78 (lv_at hl 5 rfl) ?_
                refine lv_if_lt (tgt := 110) hx hb dX4_copy_80 (by decide) (fun hc18 => ?_) (fun hc18 => ?_)
                · replace he := i_t hc18 he
                  refine lv_aload_n hx hb dX4_copy_110 rfl (lv_at hl 0 rfl) ?_
                  refine lv_ldc hx hb hown (hts _ tw768) dX4_copy_111 ?_
                  replace he := b_some he
                  obtain ⟨⟨r19, V19⟩, h19, he⟩ := he
                  refine kVI C hd hl.1 kw_X4_66 (by decide) cM0 rfl (c_X4_finds l G hJ h19) ⟨Nat.le_of_ble_eq_true rfl, Nat.le_of_ble_eq_true rfl⟩ rfl (rest := []) rfl (Nat.le_of_ble_eq_true rfl) dX4_copy_113 (fun H locs hd => ?_)
                  exact retIe (cf := (cM G)) C hr hlk hd he dX4_copy_116
                · replace he := i_f hc18 he
                  refine lv_iload hx hb dX4_copy_83 (lv_at hl 5 rfl) ?_
                  refine lv_aload_n hx hb dX4_copy_85 rfl (lv_at hl 0 rfl) ?_
                  refine rgetf C hd (by decide) cM0 rfl tgX4 15 (by decide) tw716 rfl dX4_copy_86 ?_
                  refine lv_iload_n hx hb dX4_copy_89 rfl (lv_at hl 1 rfl) ?_
                  replace he := g_some he
                  obtain ⟨hi20, he⟩ := he
                  refine riald C hd (by decide) cMa8 hi20 dX4_copy_90 ?_
                  refine lv_iload_n hx hb dX4_copy_91 rfl (lv_at hl 2 rfl) ?_
                  refine lv_isub hx hb dX4_copy_92 ?_
                  refine lv_icmp_gt (tgt := 110) hx hb dX4_copy_93 (by decide) (fun hc21 => ?_) (fun hc21 => ?_)
                  · replace he := i_t hc21 he
                    refine lv_aload_n hx hb dX4_copy_110 rfl (lv_at hl 0 rfl) ?_
                    refine lv_ldc hx hb hown (hts _ tw768) dX4_copy_111 ?_
                    replace he := b_some he
                    obtain ⟨⟨r22, V22⟩, h22, he⟩ := he
                    refine kVI C hd hl.1 kw_X4_66 (by decide) cM0 rfl (c_X4_finds l G hJ h22) ⟨Nat.le_of_ble_eq_true rfl, Nat.le_of_ble_eq_true rfl⟩ rfl (rest := []) rfl (Nat.le_of_ble_eq_true rfl) dX4_copy_113 (fun H locs hd => ?_)
                    exact retIe (cf := (cM G)) C hr hlk hd he dX4_copy_116
                  · replace he := i_f hc21 he
                    refine lv_iload hx hb dX4_copy_96 (lv_at hl 5 rfl) ?_
                    refine lv_aload_n hx hb dX4_copy_98 rfl (lv_at hl 0 rfl) ?_
                    refine rgetf C hd (by decide) cM0 rfl tgX4 15 (by decide) tw716 rfl dX4_copy_99 ?_
                    refine lv_iload_n hx hb dX4_copy_102 rfl (lv_at hl 3 rfl) ?_
                    replace he := g_some he
                    obtain ⟨hi23, he⟩ := he
                    refine riald C hd (by decide) cMa8 hi23 dX4_copy_103 ?_
                    refine lv_iload hx hb dX4_copy_104 (lv_at hl 4 rfl) ?_
                    refine lv_isub hx hb dX4_copy_106 ?_
                    refine lv_icmp_le (tgt := 117) hx hb dX4_copy_107 (by decide) (fun hc24 => ?_) (fun hc24 => ?_)
                    · replace he := i_t hc24 he
                      refine lv_iconst (v := 0) hx hb dX4_copy_117 (by decide) ?_
                      refine lv_istore (lv' := [(6, .int _), (0, .ref _), (1, .int _), (2, .int _), (3, .int _), (4, .int _), (5, .int _)]) hx hb dX4_copy_118 hl (by decide) rfl (fun ls hl => ?_)
                      exact L120 200 _ _ _ _ _ _ _ _ _ _ (lv_sub hl [1, 2, 3, 4, 5, 6, 0] rfl) hd he
                    · replace he := i_f hc24 he
                      refine lv_aload_n hx hb dX4_copy_110 rfl (lv_at hl 0 rfl) ?_
                      refine lv_ldc hx hb hown (hts _ tw768) dX4_copy_111 ?_
                      replace he := b_some he
                      obtain ⟨⟨r33, V33⟩, h33, he⟩ := he
                      refine kVI C hd hl.1 kw_X4_66 (by decide) cM0 rfl (c_X4_finds l G hJ h33) ⟨Nat.le_of_ble_eq_true rfl, Nat.le_of_ble_eq_true rfl⟩ rfl (rest := []) rfl (Nat.le_of_ble_eq_true rfl) dX4_copy_113 (fun H locs hd => ?_)
                      exact retIe (cf := (cM G)) C hr hlk hd he dX4_copy_116
          · replace he := i_f hc13 he
            refine lv_aload_n hx hb dX4_copy_62 rfl (lv_at hl 0 rfl) ?_
            refine lv_ldc hx hb hown (hts _ tw854) dX4_copy_63 ?_
            replace he := b_some he
            obtain ⟨⟨r34, V34⟩, h34, he⟩ := he
            refine kVI C hd hl.1 kw_X4_66 (by decide) cM0 rfl (c_X4_finds l G hJ h34) ⟨Nat.le_of_ble_eq_true rfl, Nat.le_of_ble_eq_true rfl⟩ rfl (rest := []) rfl (Nat.le_of_ble_eq_true rfl) dX4_copy_65 (fun H locs hd => ?_)
            exact retIe (cf := (cM G)) C hr hlk hd he dX4_copy_68
        · replace he := i_t hc10 he
          refine lv_aload_n hx hb dX4_copy_39 rfl (lv_at hl 0 rfl) ?_
          refine lv_ldcw hx hb hown (hts _ tw1117) dX4_copy_40 ?_
          replace he := b_some he
          obtain ⟨⟨r35, V35⟩, h35, he⟩ := he
          refine kVI C hd hl.1 kw_X4_66 (by decide) cM0 rfl (c_X4_finds l G hJ h35) ⟨Nat.le_of_ble_eq_true rfl, Nat.le_of_ble_eq_true rfl⟩ rfl (rest := []) rfl (Nat.le_of_ble_eq_true rfl) dX4_copy_43 (fun H locs hd => ?_)
          exact retIe (cf := (cM G)) C hr hlk hd he dX4_copy_46
    · replace he := i_t hc5 he
      refine lv_aload_n hx hb dX4_copy_14 rfl (lv_at hl 0 rfl) ?_
      refine lv_ldc hx hb hown (hts _ tw768) dX4_copy_15 ?_
      replace he := b_some he
      obtain ⟨⟨r36, V36⟩, h36, he⟩ := he
      refine kVI C hd hl.1 kw_X4_66 (by decide) cM0 rfl (c_X4_finds l G hJ h36) ⟨Nat.le_of_ble_eq_true rfl, Nat.le_of_ble_eq_true rfl⟩ rfl (rest := []) rfl (Nat.le_of_ble_eq_true rfl) dX4_copy_17 (fun H locs hd => ?_)
      exact retIe (cf := (cM G)) C hr hlk hd he dX4_copy_20
set_option maxRecDepth 100000 in
set_option maxHeartbeats 4000000 in
theorem c_X4_lays (l : Launch) (G : Gd) (hJ : Inj 11 G.2.2) {a1 : Int32} {V V' : VV} {r : Int32} (he : f_X4_lays a1 V = some (r, V')) : MI l 11 G XM yX4_lays cX4_lays 6 3 66 [.ref (G.2.2 0), .int a1] (cM G V) (cM G V') r := by
  refine walk_of (own := RX4) (by decide) rfl hJ (xs_M G) (Nat.le_of_ble_eq_true rfl) ?_
  intro p e s m below meth c C hr hlk ls hl hd
  have hl : lv_has ls 6 [(0, .ref (G.2.2 0)), (1, .int a1)] := hl
  obtain ⟨⟨hx, hb, hml, hown, hts⟩, -⟩ := id C
  have L21 : ∀ (fuel : Nat) (x1 : Int32) (x3 : Int32) (x4 : Int32) (V : VV) (H : Heap) (locs : List Loc) (ls : Array Slot), lv_has ls 6 [(0, .ref (G.2.2 0)), (1, .int x1), (3, .int x3), (4, .int x4)] → Dy 11 G (cM G V) s H locs → f_X4_lays_L21 fuel x1 x3 x4 V = some (r, V') → W p l e (rmF 3 66) s m ([.ref (G.2.2 0), .int a1] : List Value).toArray below meth c H locs 0 0 (MQ below (QI 11 G (cM G V') (fun r' => r' = r)) ([.ref (G.2.2 0), .int a1] : List Value).toArray s 0 0 (inA 11 G.2.2)) (F0 m 21 ls []) := by
    intro fuel
    induction fuel with
    | zero => intro x1 x3 x4 V H locs ls hl hd he; simp [f_X4_lays_L21] at he
    | succ n ih21 =>
      intro x1 x3 x4 V H locs ls hl hd he
      rw [f_X4_lays_L21] at he
      refine lv_iload hx hb dX4_lays_21 (lv_at hl 3 rfl) ?_
      refine lv_aload_n hx hb dX4_lays_23 rfl (lv_at hl 0 rfl) ?_
      refine rgetf C hd (by decide) cM0 rfl tgX4 15 (by decide) tw716 rfl dX4_lays_24 ?_
      refine lv_iload_n hx hb dX4_lays_27 rfl (lv_at hl 1 rfl) ?_
      replace he := g_some he
      obtain ⟨hi3, he⟩ := he
      refine riald C hd (by decide) cMa8 hi3 dX4_lays_28 ?_
      refine lv_icmp_ge (tgt := 122) hx hb dX4_lays_29 (by decide) (fun hc4 => ?_) (fun hc4 => ?_)
      · replace he := i_t hc4 he
        refine lv_iload_n hx hb dX4_lays_122 rfl (lv_at hl 2 rfl) ?_
        exact retIe (cf := (cM G)) C hr hlk hd he dX4_lays_123
      · replace he := i_f hc4 he
        refine lv_iload hx hb dX4_lays_32 (lv_at hl 3 rfl) ?_
        refine lv_aload_n hx hb dX4_lays_34 rfl (lv_at hl 0 rfl) ?_
        refine rgetf C hd (by decide) cM0 rfl tgX4 0 (by decide) tw701 rfl dX4_lays_35 ?_
        refine lv_iconst (v := 0) hx hb dX4_lays_38 (by decide) ?_
        replace he := g_some he
        obtain ⟨hi5, he⟩ := he
        refine riald C hd (by decide) cMa1 hi5 dX4_lays_39 ?_
        refine lv_icmp_ge (tgt := 122) hx hb dX4_lays_40 (by decide) (fun hc6 => ?_) (fun hc6 => ?_)
        · replace he := i_t hc6 he
          refine lv_iload_n hx hb dX4_lays_122 rfl (lv_at hl 2 rfl) ?_
          exact retIe (cf := (cM G)) C hr hlk hd he dX4_lays_123
        · replace he := i_f hc6 he
          refine lv_aload_n hx hb dX4_lays_43 rfl (lv_at hl 0 rfl) ?_
          refine rgetf C hd (by decide) cM0 rfl tgX4 16 (by decide) tw717 rfl dX4_lays_44 ?_
          refine lv_bipush (v := 40) hx hb dX4_lays_47 (by decide) ?_
          refine lv_iload_n hx hb dX4_lays_49 rfl (lv_at hl 1 rfl) ?_
          refine lv_imul hx hb dX4_lays_50 ?_
          refine lv_iload hx hb dX4_lays_51 (lv_at hl 3 rfl) ?_
          refine lv_iadd hx hb dX4_lays_53 ?_
          replace he := g_some he
          obtain ⟨hi7, he⟩ := he
          refine rlald C hd (by decide) cMa9 hi7 dX4_lays_54 ?_
          refine lv_lconst (v := 0) hx hb dX4_lays_55 (by decide) ?_
          refine lv_ldc2 hx hb hown (hts _ tw834) dX4_lays_56 ?_
          replace he := b_some he
          obtain ⟨⟨r8, V8⟩, h8, he⟩ := he
          refine kSZ C hd hl.1 kw_X4_44 (c_X4_in l G hJ h8) ⟨Nat.le_of_ble_eq_true rfl, Nat.le_of_ble_eq_true rfl⟩ rfl (rest := []) rfl (Nat.le_of_ble_eq_true rfl) dX4_lays_59 (fun H locs hz8 hd => ?_)
          refine lv_istore (lv' := [(5, .int _), (0, .ref _), (1, .int _), (3, .int _), (4, .int _)]) hx hb dX4_lays_62 hl (by decide) rfl (fun ls hl => ?_)
          refine lv_aload_n hx hb dX4_lays_64 rfl (lv_at hl 1 rfl) ?_
          refine rgetf C hd (by decide) cM0 rfl tgX4 0 (by decide) tw701 rfl dX4_lays_65 ?_
          refine lv_iload hx hb dX4_lays_68 (lv_at hl 4 rfl) ?_
          refine lv_iconst (v := 4) hx hb dX4_lays_70 (by decide) ?_
          replace he := b_some he
          obtain ⟨⟨r9, V9⟩, h9, he⟩ := he
          refine kSI C hd hl.1 kw_X4_54 (c_X4_spotOf l G hJ h9) ⟨Nat.le_of_ble_eq_true rfl, Nat.le_of_ble_eq_true rfl⟩ rfl (rest := [.ref _]) rfl (Nat.le_of_ble_eq_true rfl) dX4_lays_71 (fun H locs hd => ?_)
          refine lv_iload hx hb dX4_lays_74 (lv_at hl 0 rfl) ?_
          refine lv_if_eq (tgt := 95) hx hb dX4_lays_76 (by decide) (fun hc10 => ?_) (fun hc10 => ?_)
          · replace he := i_t hc10 he
            refine lv_aload_n hx hb dX4_lays_95 rfl (lv_at hl 1 rfl) ?_
            refine lv_iload hx hb dX4_lays_96 (lv_at hl 4 rfl) ?_
            refine lv_iconst (v := 4) hx hb dX4_lays_98 (by decide) ?_
            replace he := b_some he
            obtain ⟨⟨r11, V11⟩, h11, he⟩ := he
            refine kVI C hd hl.1 kw_X4_58 (by decide) cM0 rfl (c_X4_its l G hJ h11) ⟨Nat.le_of_ble_eq_true rfl, Nat.le_of_ble_eq_true rfl⟩ rfl (rest := [.int _, .ref _]) rfl (Nat.le_of_ble_eq_true rfl) dX4_lays_99 (fun H locs hd => ?_)
            replace he := g_some he
            obtain ⟨hi12, he⟩ := he
            replace he := bv_ex he
            obtain ⟨V13, e13, he⟩ := he
            refine riast (cell' := (cM G) V13) C hd (by decide) cMa1 hi12 (cMaw1 e13) (cM_ne e13) dX4_lays_102 (fun H locs hd => ?_)
            refine lv_iload_n hx hb dX4_lays_103 rfl (lv_at hl 3 rfl) ?_
            refine lv_iload hx hb dX4_lays_104 (lv_at hl 0 rfl) ?_
            refine lv_if_eq (tgt := 113) hx hb dX4_lays_106 (by decide) (fun hc14 => ?_) (fun hc14 => ?_)
            · replace he := i_t hc14 he
              refine lv_iconst (v := 0) hx hb dX4_lays_113 (by decide) ?_
              refine lv_iadd hx hb dX4_lays_114 ?_
              refine lv_istore_n (lv' := [(3, .int _), (5, .int _), (0, .ref _), (1, .int _), (4, .int _)]) hx hb dX4_lays_115 rfl hl (by decide) rfl (fun ls hl => ?_)
              refine lv_iinc (v := _ + 1) (lv' := [(4, .int _), (3, .int _), (5, .int _), (0, .ref _), (1, .int _)]) hx hb dX4_lays_116 hl (k := 4) rfl rfl (by decide) rfl (fun ls hl => ?_)
              refine lv_goto (tgt := 21) hx hb dX4_lays_119 (by decide) ?_
              exact ih21 _ _ _ _ _ _ _ (lv_sub hl [3, 4, 1, 0] rfl) hd he
            · replace he := i_f hc14 he
              refine lv_iconst (v := 1) hx hb dX4_lays_109 (by decide) ?_
              refine lv_goto (tgt := 114) hx hb dX4_lays_110 (by decide) ?_
              refine lv_iadd hx hb dX4_lays_114 ?_
              refine lv_istore_n (lv' := [(3, .int _), (5, .int _), (0, .ref _), (1, .int _), (4, .int _)]) hx hb dX4_lays_115 rfl hl (by decide) rfl (fun ls hl => ?_)
              refine lv_iinc (v := _ + 1) (lv' := [(4, .int _), (3, .int _), (5, .int _), (0, .ref _), (1, .int _)]) hx hb dX4_lays_116 hl (k := 4) rfl rfl (by decide) rfl (fun ls hl => ?_)
              refine lv_goto (tgt := 21) hx hb dX4_lays_119 (by decide) ?_
              exact ih21 _ _ _ _ _ _ _ (lv_sub hl [3, 4, 1, 0] rfl) hd he
          · replace he := i_f hc10 he
            refine lv_aload_n hx hb dX4_lays_79 rfl (lv_at hl 1 rfl) ?_
            refine rgetf C hd (by decide) cM0 rfl tgX4 16 (by decide) tw717 rfl dX4_lays_80 ?_
            refine lv_bipush (v := 40) hx hb dX4_lays_83 (by decide) ?_
            refine lv_iload_n hx hb dX4_lays_85 rfl (lv_at hl 2 rfl) ?_
            refine lv_imul hx hb dX4_lays_86 ?_
            refine lv_iload hx hb dX4_lays_87 (lv_at hl 4 rfl) ?_
            refine lv_iadd hx hb dX4_lays_89 ?_
            replace he := g_some he
            obtain ⟨hi15, he⟩ := he
            refine rlald C hd (by decide) cMa9 hi15 dX4_lays_90 ?_
            refine lv_l2i hx hb dX4_lays_91 rfl ?_
            refine lv_goto (tgt := 102) hx hb dX4_lays_92 (by decide) ?_
            replace he := g_some he
            obtain ⟨hi16, he⟩ := he
            replace he := bv_ex he
            obtain ⟨V17, e17, he⟩ := he
            refine riast (cell' := (cM G) V17) C hd (by decide) cMa1 hi16 (cMaw1 e17) (cM_ne e17) dX4_lays_102 (fun H locs hd => ?_)
            refine lv_iload_n hx hb dX4_lays_103 rfl (lv_at hl 3 rfl) ?_
            refine lv_iload hx hb dX4_lays_104 (lv_at hl 0 rfl) ?_
            refine lv_if_eq (tgt := 113) hx hb dX4_lays_106 (by decide) (fun hc18 => ?_) (fun hc18 => ?_)
            · replace he := i_t hc18 he
              refine lv_iconst (v := 0) hx hb dX4_lays_113 (by decide) ?_
              refine lv_iadd hx hb dX4_lays_114 ?_
              refine lv_istore_n (lv' := [(3, .int _), (5, .int _), (0, .ref _), (1, .int _), (4, .int _)]) hx hb dX4_lays_115 rfl hl (by decide) rfl (fun ls hl => ?_)
              refine lv_iinc (v := _ + 1) (lv' := [(4, .int _), (3, .int _), (5, .int _), (0, .ref _), (1, .int _)]) hx hb dX4_lays_116 hl (k := 4) rfl rfl (by decide) rfl (fun ls hl => ?_)
              refine lv_goto (tgt := 21) hx hb dX4_lays_119 (by decide) ?_
              exact ih21 _ _ _ _ _ _ _ (lv_sub hl [3, 4, 1, 0] rfl) hd he
            · replace he := i_f hc18 he
              refine lv_iconst (v := 1) hx hb dX4_lays_109 (by decide) ?_
              refine lv_goto (tgt := 114) hx hb dX4_lays_110 (by decide) ?_
              refine lv_iadd hx hb dX4_lays_114 ?_
              refine lv_istore_n (lv' := [(3, .int _), (5, .int _), (0, .ref _), (1, .int _), (4, .int _)]) hx hb dX4_lays_115 rfl hl (by decide) rfl (fun ls hl => ?_)
              refine lv_iinc (v := _ + 1) (lv' := [(4, .int _), (3, .int _), (5, .int _), (0, .ref _), (1, .int _)]) hx hb dX4_lays_116 hl (k := 4) rfl rfl (by decide) rfl (fun ls hl => ?_)
              refine lv_goto (tgt := 21) hx hb dX4_lays_119 (by decide) ?_
              exact ih21 _ _ _ _ _ _ _ (lv_sub hl [3, 4, 1, 0] rfl) hd he
  unfold f_X4_lays at he
  refine lv_aload_n hx hb dX4_lays_0 rfl (lv_at hl 0 rfl) ?_
  refine lv_iload_n hx hb dX4_lays_1 rfl (lv_at hl 1 rfl) ?_
  replace he := b_some he
  obtain ⟨⟨r1, V1⟩, h1, he⟩ := he
  refine kVI C hd hl.1 kw_X4_307 (by decide) cM0 rfl (c_X4_wrongSheet l G hJ h1) ⟨Nat.le_of_ble_eq_true rfl, Nat.le_of_ble_eq_true rfl⟩ rfl (rest := []) rfl (Nat.le_of_ble_eq_true rfl) dX4_lays_2 (fun H locs hd => ?_)
  refine lv_istore_n (lv' := [(2, .int _), (0, .ref _), (1, .int _)]) hx hb dX4_lays_5 rfl hl (by decide) rfl (fun ls hl => ?_)
  refine lv_iload_n hx hb dX4_lays_6 rfl (lv_at hl 0 rfl) ?_
  refine lv_if_eq (tgt := 16) hx hb dX4_lays_7 (by decide) (fun hc2 => ?_) (fun hc2 => ?_)
  · replace he := i_t hc2 he
    refine lv_iconst (v := 0) hx hb dX4_lays_16 (by decide) ?_
    refine lv_istore_n (lv' := [(3, .int _), (2, .int _), (0, .ref _), (1, .int _)]) hx hb dX4_lays_17 rfl hl (by decide) rfl (fun ls hl => ?_)
    refine lv_iconst (v := 0) hx hb dX4_lays_18 (by decide) ?_
    refine lv_istore (lv' := [(4, .int _), (3, .int _), (2, .int _), (0, .ref _), (1, .int _)]) hx hb dX4_lays_19 hl (by decide) rfl (fun ls hl => ?_)
    exact L21 200 _ _ _ _ _ _ _ (lv_sub hl [3, 4, 1, 0] rfl) hd he
  · replace he := i_f hc2 he
    refine lv_aload_n hx hb dX4_lays_10 rfl (lv_at hl 1 rfl) ?_
    refine lv_iload_n hx hb dX4_lays_11 rfl (lv_at hl 0 rfl) ?_
    replace he := b_some he
    obtain ⟨⟨r19, V19⟩, h19, he⟩ := he
    refine kVI C hd hl.1 kw_X4_66 (by decide) cM0 rfl (c_X4_finds l G hJ h19) ⟨Nat.le_of_ble_eq_true rfl, Nat.le_of_ble_eq_true rfl⟩ rfl (rest := []) rfl (Nat.le_of_ble_eq_true rfl) dX4_lays_12 (fun H locs hd => ?_)
    exact retIe (cf := (cM G)) C hr hlk hd he dX4_lays_15
set_option maxRecDepth 100000 in
set_option maxHeartbeats 4000000 in
theorem c_X4_wrongBook (l : Launch) (G : Gd) (hJ : Inj 11 G.2.2) {a1 : Int32} {a2 : Int32} {V V' : VV} {r : Int32} (he : f_X4_wrongBook a1 a2 V = some (r, V')) : MI l 11 G XM yX4_wrongBook cX4_wrongBook 4 3 66 [.ref (G.2.2 0), .int a1, .int a2] (cM G V) (cM G V') r := by
  refine walk_of (own := RX4) (by decide) rfl hJ (xs_M G) (Nat.le_of_ble_eq_true rfl) ?_
  intro p e s m below meth c C hr hlk ls hl hd
  have hl : lv_has ls 4 [(0, .ref (G.2.2 0)), (1, .int a1), (2, .int a2)] := hl
  obtain ⟨⟨hx, hb, hml, hown, hts⟩, -⟩ := id C
  unfold f_X4_wrongBook at he
  refine lv_aload_n hx hb dX4_wrongBook_0 rfl (lv_at hl 0 rfl) ?_
  refine lv_iload_n hx hb dX4_wrongBook_1 rfl (lv_at hl 1 rfl) ?_
  replace he := b_some he
  obtain ⟨⟨r1, V1⟩, h1, he⟩ := he
  refine kVI C hd hl.1 kw_X4_307 (by decide) cM0 rfl (c_X4_wrongSheet l G hJ h1) ⟨Nat.le_of_ble_eq_true rfl, Nat.le_of_ble_eq_true rfl⟩ rfl (rest := []) rfl (Nat.le_of_ble_eq_true rfl) dX4_wrongBook_2 (fun H locs hd => ?_)
  refine lv_istore_n (lv' := [(3, .int _), (0, .ref _), (1, .int _), (2, .int _)]) hx hb dX4_wrongBook_5 rfl hl (by decide) rfl (fun ls hl => ?_)
  refine lv_iload_n hx hb dX4_wrongBook_6 rfl (lv_at hl 0 rfl) ?_
  refine lv_if_eq (tgt := 14) hx hb dX4_wrongBook_7 (by decide) (fun hc2 => ?_) (fun hc2 => ?_)
  · replace he := i_t hc2 he
    refine lv_aload_n hx hb dX4_wrongBook_14 rfl (lv_at hl 1 rfl) ?_
    refine lv_iload_n hx hb dX4_wrongBook_15 rfl (lv_at hl 3 rfl) ?_
    replace he := b_some he
    obtain ⟨⟨r3, V3⟩, h3, he⟩ := he
    refine kVZ C hd hl.1 kw_X4_48 (by decide) cM0 rfl (c_X4_isWalker l G hJ h3) ⟨Nat.le_of_ble_eq_true rfl, Nat.le_of_ble_eq_true rfl⟩ rfl (rest := []) rfl (Nat.le_of_ble_eq_true rfl) dX4_wrongBook_16 (fun H locs hz3 hd => ?_)
    refine lv_if_eq (tgt := 26) hx hb dX4_wrongBook_19 (by decide) (fun hc4 => ?_) (fun hc4 => ?_)
    · replace he := i_t hc4 he
      refine lv_ldc hx hb hown (hts _ tw768) dX4_wrongBook_26 ?_
      exact retIe (cf := (cM G)) C hr hlk hd he dX4_wrongBook_28
    · replace he := i_f hc4 he
      refine lv_iconst (v := 0) hx hb dX4_wrongBook_22 (by decide) ?_
      refine lv_goto (tgt := 28) hx hb dX4_wrongBook_23 (by decide) ?_
      exact retIe (cf := (cM G)) C hr hlk hd he dX4_wrongBook_28
  · replace he := i_f hc2 he
    refine lv_iload_n hx hb dX4_wrongBook_10 rfl (lv_at hl 0 rfl) ?_
    refine lv_goto (tgt := 28) hx hb dX4_wrongBook_11 (by decide) ?_
    exact retIe (cf := (cM G)) C hr hlk hd he dX4_wrongBook_28
set_option maxRecDepth 100000 in
set_option maxHeartbeats 4000000 in
theorem c_X4_book (l : Launch) (G : Gd) (hJ : Inj 11 G.2.2) {a1 : Int32} {a2 : Int32} {V V' : VV} {r : Int32} (he : f_X4_book a1 a2 V = some (r, V')) : MI l 11 G XM yX4_book cX4_book 5 6 133 [.ref (G.2.2 0), .int a1, .int a2] (cM G V) (cM G V') r := by
  refine walk_of (own := RX4) (by decide) rfl hJ (xs_M G) (Nat.le_of_ble_eq_true rfl) ?_
  intro p e s m below meth c C hr hlk ls hl hd
  have hl : lv_has ls 5 [(0, .ref (G.2.2 0)), (1, .int a1), (2, .int a2)] := hl
  obtain ⟨⟨hx, hb, hml, hown, hts⟩, -⟩ := id C
  have L24 : ∀ (fuel : Nat) (x1 : Int32) (x2 : Int32) (x4 : Int32) (V : VV) (H : Heap) (locs : List Loc) (ls : Array Slot), lv_has ls 5 [(0, .ref (G.2.2 0)), (1, .int x1), (2, .int x2), (4, .int x4)] → Dy 11 G (cM G V) s H locs → f_X4_book_L24 fuel x1 x2 x4 V = some (r, V') → W p l e (rmF 6 133) s m ([.ref (G.2.2 0), .int a1, .int a2] : List Value).toArray below meth c H locs 0 0 (MQ below (QI 11 G (cM G V') (fun r' => r' = r)) ([.ref (G.2.2 0), .int a1, .int a2] : List Value).toArray s 0 0 (inA 11 G.2.2)) (F0 m 24 ls []) := by
    intro fuel
    induction fuel with
    | zero => intro x1 x2 x4 V H locs ls hl hd he; simp [f_X4_book_L24] at he
    | succ n ih24 =>
      intro x1 x2 x4 V H locs ls hl hd he
      rw [f_X4_book_L24] at he
      refine lv_iload hx hb dX4_book_24 (lv_at hl 3 rfl) ?_
      refine lv_aload_n hx hb dX4_book_26 rfl (lv_at hl 0 rfl) ?_
      refine rgetf C hd (by decide) cM0 rfl tgX4 15 (by decide) tw716 rfl dX4_book_27 ?_
      refine lv_iload_n hx hb dX4_book_30 rfl (lv_at hl 1 rfl) ?_
      replace he := g_some he
      obtain ⟨hi4, he⟩ := he
      refine riald C hd (by decide) cMa8 hi4 dX4_book_31 ?_
      refine lv_icmp_ge (tgt := 73) hx hb dX4_book_32 (by decide) (fun hc5 => ?_) (fun hc5 => ?_)
      · replace he := i_t hc5 he
        refine lv_aload_n hx hb dX4_book_73 rfl (lv_at hl 0 rfl) ?_
        refine lv_aload_n hx hb dX4_book_74 rfl (lv_at hl 0 rfl) ?_
        refine rgetf C hd (by decide) cM0 rfl tgX4 15 (by decide) tw716 rfl dX4_book_75 ?_
        refine lv_iload_n hx hb dX4_book_78 rfl (lv_at hl 1 rfl) ?_
        replace he := g_some he
        obtain ⟨hi6, he⟩ := he
        refine riald C hd (by decide) cMa8 hi6 dX4_book_79 ?_
        replace he := b_some he
        obtain ⟨⟨r7, V7⟩, h7, he⟩ := he
        refine kVI C hd hl.1 kw_X4_167 (by decide) cM0 rfl (c_X4_takesBack l G hJ h7) ⟨Nat.le_of_ble_eq_true rfl, Nat.le_of_ble_eq_true rfl⟩ rfl (rest := []) rfl (Nat.le_of_ble_eq_true rfl) dX4_book_80 (fun H locs hd => ?_)
        exact retIe (cf := (cM G)) C hr hlk hd he dX4_book_83
      · replace he := i_f hc5 he
        refine lv_aload_n hx hb dX4_book_35 rfl (lv_at hl 0 rfl) ?_
        refine rgetf C hd (by decide) cM0 rfl tgX4 16 (by decide) tw717 rfl dX4_book_36 ?_
        refine lv_bipush (v := 40) hx hb dX4_book_39 (by decide) ?_
        refine lv_iload_n hx hb dX4_book_41 rfl (lv_at hl 1 rfl) ?_
        refine lv_imul hx hb dX4_book_42 ?_
        refine lv_iload hx hb dX4_book_43 (lv_at hl 3 rfl) ?_
        refine lv_iadd hx hb dX4_book_45 ?_
        refine lv_aload_n hx hb dX4_book_46 rfl (lv_at hl 0 rfl) ?_
        refine rgetf C hd (by decide) cM0 rfl tgX4 14 (by decide) tw715 rfl dX4_book_47 ?_
        refine lv_iload_n hx hb dX4_book_50 rfl (lv_at hl 1 rfl) ?_
        replace he := g_some he
        obtain ⟨hi8, he⟩ := he
        refine riald C hd (by decide) cMa7 hi8 dX4_book_51 ?_
        refine lv_aload_n hx hb dX4_book_52 rfl (lv_at hl 0 rfl) ?_
        refine lv_iload_n hx hb dX4_book_53 rfl (lv_at hl 2 rfl) ?_
        refine lv_iconst (v := 1) hx hb dX4_book_54 (by decide) ?_
        replace he := b_some he
        obtain ⟨⟨r9, V9⟩, h9, he⟩ := he
        refine kVI C hd hl.1 kw_X4_58 (by decide) cM0 rfl (c_X4_its l G hJ h9) ⟨Nat.le_of_ble_eq_true rfl, Nat.le_of_ble_eq_true rfl⟩ rfl (rest := [.int _, .int _, .ref _]) rfl (Nat.le_of_ble_eq_true rfl) dX4_book_55 (fun H locs hd => ?_)
        refine lv_i2l hx hb dX4_book_58 rfl ?_
        replace he := b_some he
        obtain ⟨⟨r10, V10⟩, h10, he⟩ := he
        refine kSJ C hd hl.1 kw_X4_310 (c_X4_narrowed l G hJ h10) ⟨Nat.le_of_ble_eq_true rfl, Nat.le_of_ble_eq_true rfl⟩ rfl (rest := [.int _, .ref _]) rfl (Nat.le_of_ble_eq_true rfl) dX4_book_59 (fun H locs hd => ?_)
        replace he := g_some he
        obtain ⟨hi11, he⟩ := he
        replace he := bv_ex he
        obtain ⟨V12, e12, he⟩ := he
        refine rlast (cell' := (cM G) V12) C hd (by decide) cMa9 hi11 (cMaw9 e12) (cM_neJ e12) dX4_book_62 (fun H locs hd => ?_)
        refine lv_aload_n hx hb dX4_book_63 rfl (lv_at hl 0 rfl) ?_
        replace he := b_some he
        obtain ⟨V13, h13, he⟩ := he
        refine kVV C hd hl.1 kw_X4_147 (by decide) cM0 rfl (c_X4_goesHour l G hJ h13) ⟨Nat.le_of_ble_eq_true rfl, Nat.le_of_ble_eq_true rfl⟩ rfl (rest := []) rfl (Nat.le_of_ble_eq_true rfl) dX4_book_64 (fun H locs hd => ?_)
        refine lv_iinc (v := _ + 1) (lv' := [(4, .int _), (0, .ref _), (1, .int _), (2, .int _)]) hx hb dX4_book_67 hl (k := 3) rfl rfl (by decide) rfl (fun ls hl => ?_)
        refine lv_goto (tgt := 24) hx hb dX4_book_70 (by decide) ?_
        exact ih24 _ _ _ _ _ _ _ (lv_sub hl [1, 2, 3, 0] rfl) hd he
  unfold f_X4_book at he
  refine lv_aload_n hx hb dX4_book_0 rfl (lv_at hl 0 rfl) ?_
  refine lv_iload_n hx hb dX4_book_1 rfl (lv_at hl 1 rfl) ?_
  refine lv_iload_n hx hb dX4_book_2 rfl (lv_at hl 2 rfl) ?_
  replace he := b_some he
  obtain ⟨⟨r1, V1⟩, h1, he⟩ := he
  refine kVI C hd hl.1 kw_X4_314 (by decide) cM0 rfl (c_X4_wrongBook l G hJ h1) ⟨Nat.le_of_ble_eq_true rfl, Nat.le_of_ble_eq_true rfl⟩ rfl (rest := []) rfl (Nat.le_of_ble_eq_true rfl) dX4_book_3 (fun H locs hd => ?_)
  refine lv_istore_n (lv' := [(3, .int _), (0, .ref _), (1, .int _), (2, .int _)]) hx hb dX4_book_6 rfl hl (by decide) rfl (fun ls hl => ?_)
  refine lv_iload_n hx hb dX4_book_7 rfl (lv_at hl 0 rfl) ?_
  refine lv_if_eq (tgt := 17) hx hb dX4_book_8 (by decide) (fun hc2 => ?_) (fun hc2 => ?_)
  · replace he := i_t hc2 he
    refine lv_aload_n hx hb dX4_book_17 rfl (lv_at hl 1 rfl) ?_
    replace he := b_some he
    obtain ⟨V3, h3, he⟩ := he
    refine kVV C hd hl.1 kw_X4_164 (by decide) cM0 rfl (c_X4_laysAside l G hJ h3) ⟨Nat.le_of_ble_eq_true rfl, Nat.le_of_ble_eq_true rfl⟩ rfl (rest := []) rfl (Nat.le_of_ble_eq_true rfl) dX4_book_18 (fun H locs hd => ?_)
    refine lv_iconst (v := 0) hx hb dX4_book_21 (by decide) ?_
    refine lv_istore (lv' := [(4, .int _), (3, .int _), (0, .ref _), (1, .int _), (2, .int _)]) hx hb dX4_book_22 hl (by decide) rfl (fun ls hl => ?_)
    exact L24 200 _ _ _ _ _ _ _ (lv_sub hl [2, 3, 4, 0] rfl) hd he
  · replace he := i_f hc2 he
    refine lv_aload_n hx hb dX4_book_11 rfl (lv_at hl 1 rfl) ?_
    refine lv_iload_n hx hb dX4_book_12 rfl (lv_at hl 0 rfl) ?_
    replace he := b_some he
    obtain ⟨⟨r14, V14⟩, h14, he⟩ := he
    refine kVI C hd hl.1 kw_X4_66 (by decide) cM0 rfl (c_X4_finds l G hJ h14) ⟨Nat.le_of_ble_eq_true rfl, Nat.le_of_ble_eq_true rfl⟩ rfl (rest := []) rfl (Nat.le_of_ble_eq_true rfl) dX4_book_13 (fun H locs hd => ?_)
    exact retIe (cf := (cM G)) C hr hlk hd he dX4_book_16
set_option maxRecDepth 100000 in
set_option maxHeartbeats 4000000 in
theorem c_X4_isBook (l : Launch) (G : Gd) (hJ : Inj 11 G.2.2) {a1 : Int32} {a2 : Int32} {V V' : VV} {r : Int32} (he : f_X4_isBook a1 a2 V = some (r, V')) : MZ l 11 G XM yX4_isBook cX4_isBook 4 6 133 [.ref (G.2.2 0), .int a1, .int a2] (cM G V) (cM G V') r := by
  refine walk_of (own := RX4) (by decide) rfl hJ (xs_M G) (Nat.le_of_ble_eq_true rfl) ?_
  intro p e s m below meth c C hr hlk ls hl hd
  have hl : lv_has ls 4 [(0, .ref (G.2.2 0)), (1, .int a1), (2, .int a2)] := hl
  obtain ⟨⟨hx, hb, hml, hown, hts⟩, -⟩ := id C
  have L2 : ∀ (fuel : Nat) (x1 : Int32) (x2 : Int32) (x3 : Int32) (V : VV) (H : Heap) (locs : List Loc) (ls : Array Slot), lv_has ls 4 [(0, .ref (G.2.2 0)), (1, .int x1), (2, .int x2), (3, .int x3)] → Dy 11 G (cM G V) s H locs → f_X4_isBook_L2 fuel x1 x2 x3 V = some (r, V') → W p l e (rmF 6 133) s m ([.ref (G.2.2 0), .int a1, .int a2] : List Value).toArray below meth c H locs 0 0 (MQ below (QI 11 G (cM G V') (fun r' => r' = r ∧ narrow .boolean (.int r) = .int r)) ([.ref (G.2.2 0), .int a1, .int a2] : List Value).toArray s 0 0 (inA 11 G.2.2)) (F0 m 2 ls []) := by
    intro fuel
    induction fuel with
    | zero => intro x1 x2 x3 V H locs ls hl hd he; simp [f_X4_isBook_L2] at he
    | succ n ih2 =>
      intro x1 x2 x3 V H locs ls hl hd he
      rw [f_X4_isBook_L2] at he
      refine lv_iload_n hx hb dX4_isBook_2 rfl (lv_at hl 3 rfl) ?_
      refine lv_aload_n hx hb dX4_isBook_3 rfl (lv_at hl 0 rfl) ?_
      refine rgetf C hd (by decide) cM0 rfl tgX4 15 (by decide) tw716 rfl dX4_isBook_4 ?_
      refine lv_iload_n hx hb dX4_isBook_7 rfl (lv_at hl 1 rfl) ?_
      replace he := g_some he
      obtain ⟨hi1, he⟩ := he
      refine riald C hd (by decide) cMa8 hi1 dX4_isBook_8 ?_
      refine lv_icmp_ge (tgt := 46) hx hb dX4_isBook_9 (by decide) (fun hc2 => ?_) (fun hc2 => ?_)
      · replace he := i_t hc2 he
        refine lv_iconst (v := 1) hx hb dX4_isBook_46 (by decide) ?_
        exact retZe (cf := (cM G)) C hr hlk hd rfl he dX4_isBook_47
      · replace he := i_f hc2 he
        refine lv_aload_n hx hb dX4_isBook_12 rfl (lv_at hl 0 rfl) ?_
        refine rgetf C hd (by decide) cM0 rfl tgX4 16 (by decide) tw717 rfl dX4_isBook_13 ?_
        refine lv_bipush (v := 40) hx hb dX4_isBook_16 (by decide) ?_
        refine lv_iload_n hx hb dX4_isBook_18 rfl (lv_at hl 1 rfl) ?_
        refine lv_imul hx hb dX4_isBook_19 ?_
        refine lv_iload_n hx hb dX4_isBook_20 rfl (lv_at hl 3 rfl) ?_
        refine lv_iadd hx hb dX4_isBook_21 ?_
        replace he := g_some he
        obtain ⟨hi3, he⟩ := he
        refine rlald C hd (by decide) cMa9 hi3 dX4_isBook_22 ?_
        refine lv_aload_n hx hb dX4_isBook_23 rfl (lv_at hl 0 rfl) ?_
        refine lv_iload_n hx hb dX4_isBook_24 rfl (lv_at hl 2 rfl) ?_
        refine lv_iconst (v := 1) hx hb dX4_isBook_25 (by decide) ?_
        replace he := b_some he
        obtain ⟨⟨r4, V4⟩, h4, he⟩ := he
        refine kVI C hd hl.1 kw_X4_58 (by decide) cM0 rfl (c_X4_its l G hJ h4) ⟨Nat.le_of_ble_eq_true rfl, Nat.le_of_ble_eq_true rfl⟩ rfl (rest := [.long _]) rfl (Nat.le_of_ble_eq_true rfl) dX4_isBook_26 (fun H locs hd => ?_)
        refine lv_i2l hx hb dX4_isBook_29 rfl ?_
        refine W.lcmp hx hb dX4_isBook_30 ?_
        refine lv_if_eq (tgt := 36) hx hb dX4_isBook_31 (by decide) (fun hc5 => ?_) (fun hc5 => ?_)
        · replace he := i_t hc5 he
          refine lv_aload_n hx hb dX4_isBook_36 rfl (lv_at hl 0 rfl) ?_
          replace he := b_some he
          obtain ⟨V6, h6, he⟩ := he
          refine kVV C hd hl.1 kw_X4_147 (by decide) cM0 rfl (c_X4_goesHour l G hJ h6) ⟨Nat.le_of_ble_eq_true rfl, Nat.le_of_ble_eq_true rfl⟩ rfl (rest := []) rfl (Nat.le_of_ble_eq_true rfl) dX4_isBook_37 (fun H locs hd => ?_)
          refine lv_iinc (v := _ + 1) (lv' := [(3, .int _), (0, .ref _), (1, .int _), (2, .int _)]) hx hb dX4_isBook_40 hl (k := 3) rfl rfl (by decide) rfl (fun ls hl => ?_)
          refine lv_goto (tgt := 2) hx hb dX4_isBook_43 (by decide) ?_
          exact ih2 _ _ _ _ _ _ _ (lv_sub hl [1, 2, 3, 0] rfl) hd he
        · replace he := i_f hc5 he
          refine lv_iconst (v := 0) hx hb dX4_isBook_34 (by decide) ?_
          exact retZe (cf := (cM G)) C hr hlk hd rfl he dX4_isBook_35
  unfold f_X4_isBook at he
  refine lv_iconst (v := 0) hx hb dX4_isBook_0 (by decide) ?_
  refine lv_istore_n (lv' := [(3, .int _), (0, .ref _), (1, .int _), (2, .int _)]) hx hb dX4_isBook_1 rfl hl (by decide) rfl (fun ls hl => ?_)
  exact L2 200 _ _ _ _ _ _ _ (lv_sub hl [1, 2, 3, 0] rfl) hd he
set_option maxRecDepth 100000 in
set_option maxHeartbeats 4000000 in
theorem c_X4_read (l : Launch) (G : Gd) (hJ : Inj 11 G.2.2) {a1 : Int32} {a2 : Int32} {V V' : VV} {r : Int32} (he : f_X4_read a1 a2 V = some (r, V')) : MI l 11 G XM yX4_read cX4_read 6 7 156 [.ref (G.2.2 0), .int a1, .int a2] (cM G V) (cM G V') r := by
  refine walk_of (own := RX4) (by decide) rfl hJ (xs_M G) (Nat.le_of_ble_eq_true rfl) ?_
  intro p e s m below meth c C hr hlk ls hl hd
  have hl : lv_has ls 6 [(0, .ref (G.2.2 0)), (1, .int a1), (2, .int a2)] := hl
  obtain ⟨⟨hx, hb, hml, hown, hts⟩, -⟩ := id C
  have L27 : ∀ (fuel : Nat) (x1 : Int32) (x2 : Int32) (x4 : Int32) (x5 : Int32) (V : VV) (H : Heap) (locs : List Loc) (ls : Array Slot), lv_has ls 6 [(0, .ref (G.2.2 0)), (1, .int x1), (2, .int x2), (4, .int x4), (5, .int x5)] → Dy 11 G (cM G V) s H locs → f_X4_read_L27 fuel x1 x2 x4 x5 V = some (r, V') → W p l e (rmF 7 156) s m ([.ref (G.2.2 0), .int a1, .int a2] : List Value).toArray below meth c H locs 0 0 (MQ below (QI 11 G (cM G V') (fun r' => r' = r)) ([.ref (G.2.2 0), .int a1, .int a2] : List Value).toArray s 0 0 (inA 11 G.2.2)) (F0 m 27 ls []) := by
    intro fuel
    induction fuel with
    | zero => intro x1 x2 x4 x5 V H locs ls hl hd he; simp [f_X4_read_L27] at he
    | succ n ih27 =>
      intro x1 x2 x4 x5 V H locs ls hl hd he
      rw [f_X4_read_L27] at he
      refine lv_iload hx hb dX4_read_27 (lv_at hl 4 rfl) ?_
      refine lv_bipush (v := 24) hx hb dX4_read_29 (by decide) ?_
      refine lv_icmp_ge (tgt := 91) hx hb dX4_read_31 (by decide) (fun hc4 => ?_) (fun hc4 => ?_)
      · replace he := i_t hc4 he
        refine lv_iload hx hb dX4_read_91 (lv_at hl 3 rfl) ?_
        exact retIe (cf := (cM G)) C hr hlk hd he dX4_read_93
      · replace he := i_f hc4 he
        refine lv_aload_n hx hb dX4_read_34 rfl (lv_at hl 0 rfl) ?_
        refine rgetf C hd (by decide) cM0 rfl tgX4 0 (by decide) tw701 rfl dX4_read_35 ?_
        refine lv_iload_n hx hb dX4_read_38 rfl (lv_at hl 2 rfl) ?_
        refine lv_iconst (v := 0) hx hb dX4_read_39 (by decide) ?_
        replace he := b_some he
        obtain ⟨⟨r5, V5⟩, h5, he⟩ := he
        refine kSI C hd hl.1 kw_X4_54 (c_X4_spotOf l G hJ h5) ⟨Nat.le_of_ble_eq_true rfl, Nat.le_of_ble_eq_true rfl⟩ rfl (rest := [.ref _]) rfl (Nat.le_of_ble_eq_true rfl) dX4_read_40 (fun H locs hd => ?_)
        refine lv_iload hx hb dX4_read_43 (lv_at hl 4 rfl) ?_
        refine lv_iconst (v := 4) hx hb dX4_read_45 (by decide) ?_
        refine lv_idiv hx hb dX4_read_46 (by decide) ?_
        replace he := g_some he
        obtain ⟨hi6, he⟩ := he
        replace he := bv_ex he
        obtain ⟨V7, e7, he⟩ := he
        refine riast (cell' := (cM G) V7) C hd (by decide) cMa1 hi6 (cMaw1 e7) (cM_ne e7) dX4_read_47 (fun H locs hd => ?_)
        refine lv_aload_n hx hb dX4_read_48 rfl (lv_at hl 0 rfl) ?_
        refine rgetf C hd (by decide) cM0 rfl tgX4 0 (by decide) tw701 rfl dX4_read_49 ?_
        refine lv_iload_n hx hb dX4_read_52 rfl (lv_at hl 2 rfl) ?_
        refine lv_iconst (v := 3) hx hb dX4_read_53 (by decide) ?_
        replace he := b_some he
        obtain ⟨⟨r8, V8⟩, h8, he⟩ := he
        refine kSI C hd hl.1 kw_X4_54 (c_X4_spotOf l G hJ h8) ⟨Nat.le_of_ble_eq_true rfl, Nat.le_of_ble_eq_true rfl⟩ rfl (rest := [.ref _]) rfl (Nat.le_of_ble_eq_true rfl) dX4_read_54 (fun H locs hd => ?_)
        refine lv_iload hx hb dX4_read_57 (lv_at hl 4 rfl) ?_
        refine lv_iconst (v := 4) hx hb dX4_read_59 (by decide) ?_
        refine lv_irem hx hb dX4_read_60 (by decide) ?_
        replace he := g_some he
        obtain ⟨hi9, he⟩ := he
        replace he := bv_ex he
        obtain ⟨V10, e10, he⟩ := he
        refine riast (cell' := (cM G) V10) C hd (by decide) cMa1 hi9 (cMaw1 e10) (cM_ne e10) dX4_read_61 (fun H locs hd => ?_)
        refine lv_aload_n hx hb dX4_read_62 rfl (lv_at hl 0 rfl) ?_
        refine lv_iload hx hb dX4_read_63 (lv_at hl 3 rfl) ?_
        refine lv_aload_n hx hb dX4_read_65 rfl (lv_at hl 0 rfl) ?_
        refine lv_iload_n hx hb dX4_read_66 rfl (lv_at hl 1 rfl) ?_
        refine lv_iload_n hx hb dX4_read_67 rfl (lv_at hl 2 rfl) ?_
        replace he := b_some he
        obtain ⟨⟨r11, V11⟩, h11, he⟩ := he
        refine kVZ C hd hl.1 kw_X4_317 (by decide) cM0 rfl (c_X4_isBook l G hJ h11) ⟨Nat.le_of_ble_eq_true rfl, Nat.le_of_ble_eq_true rfl⟩ rfl (rest := [.int _, .ref _]) rfl (Nat.le_of_ble_eq_true rfl) dX4_read_68 (fun H locs hz11 hd => ?_)
        refine lv_if_eq (tgt := 78) hx hb dX4_read_71 (by decide) (fun hc12 => ?_) (fun hc12 => ?_)
        · replace he := i_t hc12 he
          refine lv_iconst (v := 0) hx hb dX4_read_78 (by decide) ?_
          refine lv_iadd hx hb dX4_read_79 ?_
          replace he := b_some he
          obtain ⟨⟨r13, V13⟩, h13, he⟩ := he
          refine kVI C hd hl.1 kw_X4_167 (by decide) cM0 rfl (c_X4_takesBack l G hJ h13) ⟨Nat.le_of_ble_eq_true rfl, Nat.le_of_ble_eq_true rfl⟩ rfl (rest := []) rfl (Nat.le_of_ble_eq_true rfl) dX4_read_80 (fun H locs hd => ?_)
          refine lv_istore (lv' := [(4, .int _), (0, .ref _), (1, .int _), (2, .int _), (5, .int _)]) hx hb dX4_read_83 hl (by decide) rfl (fun ls hl => ?_)
          refine lv_iinc (v := _ + 1) (lv' := [(5, .int _), (4, .int _), (0, .ref _), (1, .int _), (2, .int _)]) hx hb dX4_read_85 hl (k := 4) rfl rfl (by decide) rfl (fun ls hl => ?_)
          refine lv_goto (tgt := 27) hx hb dX4_read_88 (by decide) ?_
          exact ih27 _ _ _ _ _ _ _ _ (lv_sub hl [2, 3, 4, 1, 0] rfl) hd he
        · replace he := i_f hc12 he
          refine lv_iconst (v := 1) hx hb dX4_read_74 (by decide) ?_
          refine lv_goto (tgt := 79) hx hb dX4_read_75 (by decide) ?_
          refine lv_iadd hx hb dX4_read_79 ?_
          replace he := b_some he
          obtain ⟨⟨r14, V14⟩, h14, he⟩ := he
          refine kVI C hd hl.1 kw_X4_167 (by decide) cM0 rfl (c_X4_takesBack l G hJ h14) ⟨Nat.le_of_ble_eq_true rfl, Nat.le_of_ble_eq_true rfl⟩ rfl (rest := []) rfl (Nat.le_of_ble_eq_true rfl) dX4_read_80 (fun H locs hd => ?_)
          refine lv_istore (lv' := [(4, .int _), (0, .ref _), (1, .int _), (2, .int _), (5, .int _)]) hx hb dX4_read_83 hl (by decide) rfl (fun ls hl => ?_)
          refine lv_iinc (v := _ + 1) (lv' := [(5, .int _), (4, .int _), (0, .ref _), (1, .int _), (2, .int _)]) hx hb dX4_read_85 hl (k := 4) rfl rfl (by decide) rfl (fun ls hl => ?_)
          refine lv_goto (tgt := 27) hx hb dX4_read_88 (by decide) ?_
          exact ih27 _ _ _ _ _ _ _ _ (lv_sub hl [2, 3, 4, 1, 0] rfl) hd he
  unfold f_X4_read at he
  refine lv_aload_n hx hb dX4_read_0 rfl (lv_at hl 0 rfl) ?_
  refine lv_iload_n hx hb dX4_read_1 rfl (lv_at hl 1 rfl) ?_
  refine lv_iload_n hx hb dX4_read_2 rfl (lv_at hl 2 rfl) ?_
  replace he := b_some he
  obtain ⟨⟨r1, V1⟩, h1, he⟩ := he
  refine kVI C hd hl.1 kw_X4_314 (by decide) cM0 rfl (c_X4_wrongBook l G hJ h1) ⟨Nat.le_of_ble_eq_true rfl, Nat.le_of_ble_eq_true rfl⟩ rfl (rest := []) rfl (Nat.le_of_ble_eq_true rfl) dX4_read_3 (fun H locs hd => ?_)
  refine lv_istore_n (lv' := [(3, .int _), (0, .ref _), (1, .int _), (2, .int _)]) hx hb dX4_read_6 rfl hl (by decide) rfl (fun ls hl => ?_)
  refine lv_iload_n hx hb dX4_read_7 rfl (lv_at hl 0 rfl) ?_
  refine lv_if_eq (tgt := 17) hx hb dX4_read_8 (by decide) (fun hc2 => ?_) (fun hc2 => ?_)
  · replace he := i_t hc2 he
    refine lv_aload_n hx hb dX4_read_17 rfl (lv_at hl 1 rfl) ?_
    replace he := b_some he
    obtain ⟨V3, h3, he⟩ := he
    refine kVV C hd hl.1 kw_X4_164 (by decide) cM0 rfl (c_X4_laysAside l G hJ h3) ⟨Nat.le_of_ble_eq_true rfl, Nat.le_of_ble_eq_true rfl⟩ rfl (rest := []) rfl (Nat.le_of_ble_eq_true rfl) dX4_read_18 (fun H locs hd => ?_)
    refine lv_iconst (v := 0) hx hb dX4_read_21 (by decide) ?_
    refine lv_istore (lv' := [(4, .int _), (3, .int _), (0, .ref _), (1, .int _), (2, .int _)]) hx hb dX4_read_22 hl (by decide) rfl (fun ls hl => ?_)
    refine lv_iconst (v := 0) hx hb dX4_read_24 (by decide) ?_
    refine lv_istore (lv' := [(5, .int _), (4, .int _), (3, .int _), (0, .ref _), (1, .int _), (2, .int _)]) hx hb dX4_read_25 hl (by decide) rfl (fun ls hl => ?_)
    exact L27 200 _ _ _ _ _ _ _ _ (lv_sub hl [3, 4, 5, 1, 0] rfl) hd he
  · replace he := i_f hc2 he
    refine lv_aload_n hx hb dX4_read_11 rfl (lv_at hl 1 rfl) ?_
    refine lv_iload_n hx hb dX4_read_12 rfl (lv_at hl 0 rfl) ?_
    replace he := b_some he
    obtain ⟨⟨r15, V15⟩, h15, he⟩ := he
    refine kVI C hd hl.1 kw_X4_66 (by decide) cM0 rfl (c_X4_finds l G hJ h15) ⟨Nat.le_of_ble_eq_true rfl, Nat.le_of_ble_eq_true rfl⟩ rfl (rest := []) rfl (Nat.le_of_ble_eq_true rfl) dX4_read_13 (fun H locs hd => ?_)
    exact retIe (cf := (cM G)) C hr hlk hd he dX4_read_16
set_option maxRecDepth 100000 in
set_option maxHeartbeats 4000000 in
theorem c_X4_image (l : Launch) (G : Gd) (hJ : Inj 11 G.2.2) {V V' : VV} {r : Int32} (he : f_X4_image V = some (r, V')) : MI l 11 G XM yX4_image cX4_image 2 0 0 [.ref (G.2.2 0)] (cM G V) (cM G V') r := by
  refine walk_of (own := RX4) (by decide) rfl hJ (xs_M G) (Nat.le_of_ble_eq_true rfl) ?_
  intro p e s m below meth c C hr hlk ls hl hd
  have hl : lv_has ls 2 [(0, .ref (G.2.2 0))] := hl
  obtain ⟨⟨hx, hb, hml, hown, hts⟩, -⟩ := id C
  have L2 : ∀ (fuel : Nat) (x1 : Int32) (V : VV) (H : Heap) (locs : List Loc) (ls : Array Slot), lv_has ls 2 [(0, .ref (G.2.2 0)), (1, .int x1)] → Dy 11 G (cM G V) s H locs → f_X4_image_L2 fuel x1 V = some (r, V') → W p l e (rmF 0 0) s m ([.ref (G.2.2 0)] : List Value).toArray below meth c H locs 0 0 (MQ below (QI 11 G (cM G V') (fun r' => r' = r)) ([.ref (G.2.2 0)] : List Value).toArray s 0 0 (inA 11 G.2.2)) (F0 m 2 ls []) := by
    intro fuel
    induction fuel with
    | zero => intro x1 V H locs ls hl hd he; simp [f_X4_image_L2] at he
    | succ n ih2 =>
      intro x1 V H locs ls hl hd he
      rw [f_X4_image_L2] at he
      refine lv_iload_n hx hb dX4_image_2 rfl (lv_at hl 1 rfl) ?_
      refine lv_bipush (v := 60) hx hb dX4_image_3 (by decide) ?_
      refine lv_icmp_ge (tgt := 26) hx hb dX4_image_5 (by decide) (fun hc1 => ?_) (fun hc1 => ?_)
      · replace he := i_t hc1 he
        refine lv_aload_n hx hb dX4_image_26 rfl (lv_at hl 0 rfl) ?_
        refine lv_iconst (v := 1) hx hb dX4_image_27 (by decide) ?_
        replace he := bv_ex he
        obtain ⟨V2, e2, he⟩ := he
        refine rputf (cell' := (cM G) V2) C hd (by decide) cM0 rfl tgX4 tyX4 tyX4_ok nmX4 5 (by decide) tw706 rfl (tyX4_ok 5 (by decide)) rfl rfl (Nat.le_of_ble_eq_true rfl) (cM0_w (by decide) e2) (cM_ne e2) dX4_image_28 (fun H locs hd => ?_)
        refine lv_iconst (v := 1) hx hb dX4_image_31 (by decide) ?_
        exact retIe (cf := (cM G)) C hr hlk hd he dX4_image_32
      · replace he := i_f hc1 he
        refine lv_aload_n hx hb dX4_image_8 rfl (lv_at hl 0 rfl) ?_
        refine rgetf C hd (by decide) cM0 rfl tgX4 1 (by decide) tw702 rfl dX4_image_9 ?_
        refine lv_iload_n hx hb dX4_image_12 rfl (lv_at hl 1 rfl) ?_
        refine lv_aload_n hx hb dX4_image_13 rfl (lv_at hl 0 rfl) ?_
        refine rgetf C hd (by decide) cM0 rfl tgX4 0 (by decide) tw701 rfl dX4_image_14 ?_
        refine lv_iload_n hx hb dX4_image_17 rfl (lv_at hl 1 rfl) ?_
        replace he := g_some he
        obtain ⟨hi3, he⟩ := he
        refine riald C hd (by decide) cMa1 hi3 dX4_image_18 ?_
        replace he := g_some he
        obtain ⟨hi4, he⟩ := he
        replace he := bv_ex he
        obtain ⟨V5, e5, he⟩ := he
        refine riast (cell' := (cM G) V5) C hd (by decide) cMa2 hi4 (cMaw2 e5) (cM_ne e5) dX4_image_19 (fun H locs hd => ?_)
        refine lv_iinc (v := _ + 1) (lv' := [(1, .int _), (0, .ref _)]) hx hb dX4_image_20 hl (k := 1) rfl rfl (by decide) rfl (fun ls hl => ?_)
        refine lv_goto (tgt := 2) hx hb dX4_image_23 (by decide) ?_
        exact ih2 _ _ _ _ _ (lv_sub hl [1, 0] rfl) hd he
  unfold f_X4_image at he
  refine lv_iconst (v := 0) hx hb dX4_image_0 (by decide) ?_
  refine lv_istore_n (lv' := [(1, .int _), (0, .ref _)]) hx hb dX4_image_1 rfl hl (by decide) rfl (fun ls hl => ?_)
  exact L2 200 _ _ _ _ _ (lv_sub hl [1, 0] rfl) hd he
set_option maxRecDepth 100000 in
set_option maxHeartbeats 4000000 in
theorem c_X4_undo (l : Launch) (G : Gd) (hJ : Inj 11 G.2.2) {V V' : VV} {r : Int32} (he : f_X4_undo V = some (r, V')) : MI l 11 G XM yX4_undo cX4_undo 2 1 21 [.ref (G.2.2 0)] (cM G V) (cM G V') r := by
  refine walk_of (own := RX4) (by decide) rfl hJ (xs_M G) (Nat.le_of_ble_eq_true rfl) ?_
  intro p e s m below meth c C hr hlk ls hl hd
  have hl : lv_has ls 2 [(0, .ref (G.2.2 0))] := hl
  obtain ⟨⟨hx, hb, hml, hown, hts⟩, -⟩ := id C
  have L16 : ∀ (fuel : Nat) (x1 : Int32) (V : VV) (H : Heap) (locs : List Loc) (ls : Array Slot), lv_has ls 2 [(0, .ref (G.2.2 0)), (1, .int x1)] → Dy 11 G (cM G V) s H locs → f_X4_undo_L16 fuel x1 V = some (r, V') → W p l e (rmF 1 21) s m ([.ref (G.2.2 0)] : List Value).toArray below meth c H locs 0 0 (MQ below (QI 11 G (cM G V') (fun r' => r' = r)) ([.ref (G.2.2 0)] : List Value).toArray s 0 0 (inA 11 G.2.2)) (F0 m 16 ls []) := by
    intro fuel
    induction fuel with
    | zero => intro x1 V H locs ls hl hd he; simp [f_X4_undo_L16] at he
    | succ n ih16 =>
      intro x1 V H locs ls hl hd he
      rw [f_X4_undo_L16] at he
      refine lv_iload_n hx hb dX4_undo_16 rfl (lv_at hl 1 rfl) ?_
      refine lv_bipush (v := 60) hx hb dX4_undo_17 (by decide) ?_
      refine lv_icmp_ge (tgt := 40) hx hb dX4_undo_19 (by decide) (fun hc2 => ?_) (fun hc2 => ?_)
      · replace he := i_t hc2 he
        refine lv_aload_n hx hb dX4_undo_40 rfl (lv_at hl 0 rfl) ?_
        refine rgetf C hd (by decide) cM0 rfl tgX4 0 (by decide) tw701 rfl dX4_undo_41 ?_
        refine lv_iconst (v := 0) hx hb dX4_undo_44 (by decide) ?_
        replace he := g_some he
        obtain ⟨hi3, he⟩ := he
        refine riald C hd (by decide) cMa1 hi3 dX4_undo_45 ?_
        exact retIe (cf := (cM G)) C hr hlk hd he dX4_undo_46
      · replace he := i_f hc2 he
        refine lv_aload_n hx hb dX4_undo_22 rfl (lv_at hl 0 rfl) ?_
        refine rgetf C hd (by decide) cM0 rfl tgX4 0 (by decide) tw701 rfl dX4_undo_23 ?_
        refine lv_iload_n hx hb dX4_undo_26 rfl (lv_at hl 1 rfl) ?_
        refine lv_aload_n hx hb dX4_undo_27 rfl (lv_at hl 0 rfl) ?_
        refine rgetf C hd (by decide) cM0 rfl tgX4 1 (by decide) tw702 rfl dX4_undo_28 ?_
        refine lv_iload_n hx hb dX4_undo_31 rfl (lv_at hl 1 rfl) ?_
        replace he := g_some he
        obtain ⟨hi4, he⟩ := he
        refine riald C hd (by decide) cMa2 hi4 dX4_undo_32 ?_
        replace he := g_some he
        obtain ⟨hi5, he⟩ := he
        replace he := bv_ex he
        obtain ⟨V6, e6, he⟩ := he
        refine riast (cell' := (cM G) V6) C hd (by decide) cMa1 hi5 (cMaw1 e6) (cM_ne e6) dX4_undo_33 (fun H locs hd => ?_)
        refine lv_iinc (v := _ + 1) (lv' := [(1, .int _), (0, .ref _)]) hx hb dX4_undo_34 hl (k := 1) rfl rfl (by decide) rfl (fun ls hl => ?_)
        refine lv_goto (tgt := 16) hx hb dX4_undo_37 (by decide) ?_
        exact ih16 _ _ _ _ _ (lv_sub hl [1, 0] rfl) hd he
  unfold f_X4_undo at he
  refine lv_aload_n hx hb dX4_undo_0 rfl (lv_at hl 0 rfl) ?_
  refine rgetf C hd (by decide) cM0 rfl tgX4 5 (by decide) tw706 rfl dX4_undo_1 ?_
  refine lv_if_ne (tgt := 14) hx hb dX4_undo_4 (by decide) (fun hc1 => ?_) (fun hc1 => ?_)
  · replace he := i_f hc1 he
    refine lv_iconst (v := 0) hx hb dX4_undo_14 (by decide) ?_
    refine lv_istore_n (lv' := [(1, .int _), (0, .ref _)]) hx hb dX4_undo_15 rfl hl (by decide) rfl (fun ls hl => ?_)
    exact L16 200 _ _ _ _ _ (lv_sub hl [1, 0] rfl) hd he
  · replace he := i_t hc1 he
    refine lv_aload_n hx hb dX4_undo_7 rfl (lv_at hl 0 rfl) ?_
    refine lv_ldc hx hb hown (hts _ tw961) dX4_undo_8 ?_
    replace he := b_some he
    obtain ⟨⟨r7, V7⟩, h7, he⟩ := he
    refine kVI C hd hl.1 kw_X4_66 (by decide) cM0 rfl (c_X4_finds l G hJ h7) ⟨Nat.le_of_ble_eq_true rfl, Nat.le_of_ble_eq_true rfl⟩ rfl (rest := []) rfl (Nat.le_of_ble_eq_true rfl) dX4_undo_10 (fun H locs hd => ?_)
    exact retIe (cf := (cM G)) C hr hlk hd he dX4_undo_13
set_option maxRecDepth 100000 in
set_option maxHeartbeats 4000000 in
theorem c_X4_tear (l : Launch) (G : Gd) (hJ : Inj 11 G.2.2) {V V' : VV} {r : Int32} (he : f_X4_tear V = some (r, V')) : MI l 11 G XM yX4_tear cX4_tear 2 0 0 [.ref (G.2.2 0)] (cM G V) (cM G V') r := by
  refine walk_of (own := RX4) (by decide) rfl hJ (xs_M G) (Nat.le_of_ble_eq_true rfl) ?_
  intro p e s m below meth c C hr hlk ls hl hd
  have hl : lv_has ls 2 [(0, .ref (G.2.2 0))] := hl
  obtain ⟨⟨hx, hb, hml, hown, hts⟩, -⟩ := id C
  unfold f_X4_tear at he
  refine lv_aload_n hx hb dX4_tear_0 rfl (lv_at hl 0 rfl) ?_
  refine rgetf C hd (by decide) cM0 rfl tgX4 5 (by decide) tw706 rfl dX4_tear_1 ?_
  refine lv_if_eq (tgt := 11) hx hb dX4_tear_4 (by decide) (fun hc1 => ?_) (fun hc1 => ?_)
  · replace he := i_t hc1 he
    refine lv_iconst (v := 0) hx hb dX4_tear_11 (by decide) ?_
    refine lv_istore_n (lv' := [(1, .int _), (0, .ref _)]) hx hb dX4_tear_12 rfl hl (by decide) rfl (fun ls hl => ?_)
    refine lv_aload_n hx hb dX4_tear_13 rfl (lv_at hl 1 rfl) ?_
    refine lv_iconst (v := 0) hx hb dX4_tear_14 (by decide) ?_
    replace he := bv_ex he
    obtain ⟨V2, e2, he⟩ := he
    refine rputf (cell' := (cM G) V2) C hd (by decide) cM0 rfl tgX4 tyX4 tyX4_ok nmX4 5 (by decide) tw706 rfl (tyX4_ok 5 (by decide)) rfl rfl (Nat.le_of_ble_eq_true rfl) (cM0_w (by decide) e2) (cM_ne e2) dX4_tear_15 (fun H locs hd => ?_)
    refine lv_iload_n hx hb dX4_tear_18 rfl (lv_at hl 0 rfl) ?_
    exact retIe (cf := (cM G)) C hr hlk hd he dX4_tear_19
  · replace he := i_f hc1 he
    refine lv_iconst (v := 1) hx hb dX4_tear_7 (by decide) ?_
    refine lv_goto (tgt := 12) hx hb dX4_tear_8 (by decide) ?_
    refine lv_istore_n (lv' := [(1, .int _), (0, .ref _)]) hx hb dX4_tear_12 rfl hl (by decide) rfl (fun ls hl => ?_)
    refine lv_aload_n hx hb dX4_tear_13 rfl (lv_at hl 1 rfl) ?_
    refine lv_iconst (v := 0) hx hb dX4_tear_14 (by decide) ?_
    replace he := bv_ex he
    obtain ⟨V3, e3, he⟩ := he
    refine rputf (cell' := (cM G) V3) C hd (by decide) cM0 rfl tgX4 tyX4 tyX4_ok nmX4 5 (by decide) tw706 rfl (tyX4_ok 5 (by decide)) rfl rfl (Nat.le_of_ble_eq_true rfl) (cM0_w (by decide) e3) (cM_ne e3) dX4_tear_15 (fun H locs hd => ?_)
    refine lv_iload_n hx hb dX4_tear_18 rfl (lv_at hl 0 rfl) ?_
    exact retIe (cf := (cM G)) C hr hlk hd he dX4_tear_19
set_option maxRecDepth 100000 in
set_option maxHeartbeats 4000000 in
theorem c_X4_count (l : Launch) (G : Gd) (hJ : Inj 11 G.2.2) {a1 : Int32} {V V' : VV} {r : Int32} (he : f_X4_count a1 V = some (r, V')) : MI l 11 G XM yX4_count cX4_count 2 4 86 [.ref (G.2.2 0), .int a1] (cM G V) (cM G V') r := by
  refine walk_of (own := RX4) (by decide) rfl hJ (xs_M G) (Nat.le_of_ble_eq_true rfl) ?_
  intro p e s m below meth c C hr hlk ls hl hd
  have hl : lv_has ls 2 [(0, .ref (G.2.2 0)), (1, .int a1)] := hl
  obtain ⟨⟨hx, hb, hml, hown, hts⟩, -⟩ := id C
  unfold f_X4_count at he
  refine lv_iload_n hx hb dX4_count_0 rfl (lv_at hl 1 rfl) ?_
  replace he := ite_cases he
  rcases he with ⟨hc1, he⟩ | ⟨hc1, he⟩
  · refine rtabIn (k := 0) (off := 31) (tgt := 32) hx hb dX4_count_1 hc1 (by decide) (by decide) rfl (by decide) ?_
    refine lv_aload_n hx hb dX4_count_32 rfl (lv_at hl 0 rfl) ?_
    refine rgetf C hd (by decide) cM0 rfl tgX4 0 (by decide) tw701 rfl dX4_count_33 ?_
    refine lv_iconst (v := 0) hx hb dX4_count_36 (by decide) ?_
    replace he := g_some he
    obtain ⟨hi2, he⟩ := he
    refine riald C hd (by decide) cMa1 hi2 dX4_count_37 ?_
    exact retIe (cf := (cM G)) C hr hlk hd he dX4_count_38
  · replace he := ite_cases he
    rcases he with ⟨hc3, he⟩ | ⟨hc3, he⟩
    · refine rtabIn (k := 1) (off := 38) (tgt := 39) hx hb dX4_count_1 hc3 (by decide) (by decide) rfl (by decide) ?_
      refine lv_aload_n hx hb dX4_count_39 rfl (lv_at hl 0 rfl) ?_
      refine rgetf C hd (by decide) cM0 rfl tgX4 9 (by decide) tw710 rfl dX4_count_40 ?_
      exact retIe (cf := (cM G)) C hr hlk hd he dX4_count_43
    · replace he := ite_cases he
      rcases he with ⟨hc4, he⟩ | ⟨hc4, he⟩
      · refine rtabIn (k := 2) (off := 43) (tgt := 44) hx hb dX4_count_1 hc4 (by decide) (by decide) rfl (by decide) ?_
        refine lv_aload_n hx hb dX4_count_44 rfl (lv_at hl 0 rfl) ?_
        replace he := b_some he
        obtain ⟨⟨r5, V5⟩, h5, he⟩ := he
        refine kVI C hd hl.1 kw_X4_124 (by decide) cM0 rfl (c_X4_thoseKept l G hJ h5) ⟨Nat.le_of_ble_eq_true rfl, Nat.le_of_ble_eq_true rfl⟩ rfl (rest := []) rfl (Nat.le_of_ble_eq_true rfl) dX4_count_45 (fun H locs hd => ?_)
        replace he := b_some he
        obtain ⟨⟨r6, V6⟩, h6, he⟩ := he
        refine kSI C hd hl.1 kw_X4_128 (c_X4_ones l G hJ h6) ⟨Nat.le_of_ble_eq_true rfl, Nat.le_of_ble_eq_true rfl⟩ rfl (rest := []) rfl (Nat.le_of_ble_eq_true rfl) dX4_count_48 (fun H locs hd => ?_)
        exact retIe (cf := (cM G)) C hr hlk hd he dX4_count_51
      · replace he := ite_cases he
        rcases he with ⟨hc7, he⟩ | ⟨hc7, he⟩
        · refine rtabIn (k := 3) (off := 51) (tgt := 52) hx hb dX4_count_1 hc7 (by decide) (by decide) rfl (by decide) ?_
          refine lv_aload_n hx hb dX4_count_52 rfl (lv_at hl 0 rfl) ?_
          refine rgetf C hd (by decide) cM0 rfl tgX4 0 (by decide) tw701 rfl dX4_count_53 ?_
          refine lv_iconst (v := 2) hx hb dX4_count_56 (by decide) ?_
          replace he := g_some he
          obtain ⟨hi8, he⟩ := he
          refine riald C hd (by decide) cMa1 hi8 dX4_count_57 ?_
          replace he := b_some he
          obtain ⟨⟨r9, V9⟩, h9, he⟩ := he
          refine kSI C hd hl.1 kw_X4_128 (c_X4_ones l G hJ h9) ⟨Nat.le_of_ble_eq_true rfl, Nat.le_of_ble_eq_true rfl⟩ rfl (rest := []) rfl (Nat.le_of_ble_eq_true rfl) dX4_count_58 (fun H locs hd => ?_)
          exact retIe (cf := (cM G)) C hr hlk hd he dX4_count_61
        · refine lv_tableOut (tgt := 62) hx hb dX4_count_1 (tbl_out (fun k k1 k2 => by rcases (show k = 0 ∨ k = 1 ∨ k = 2 ∨ k = 3 by omega) with rfl | rfl | rfl | rfl <;> first | exact hc1 | exact hc3 | exact hc4 | exact hc7)) (by decide) ?_
          refine lv_aload_n hx hb dX4_count_62 rfl (lv_at hl 0 rfl) ?_
          refine lv_ldc hx hb hown (hts _ tw768) dX4_count_63 ?_
          replace he := b_some he
          obtain ⟨⟨r10, V10⟩, h10, he⟩ := he
          refine kVI C hd hl.1 kw_X4_66 (by decide) cM0 rfl (c_X4_finds l G hJ h10) ⟨Nat.le_of_ble_eq_true rfl, Nat.le_of_ble_eq_true rfl⟩ rfl (rest := []) rfl (Nat.le_of_ble_eq_true rfl) dX4_count_65 (fun H locs hd => ?_)
          exact retIe (cf := (cM G)) C hr hlk hd he dX4_count_68
set_option maxRecDepth 100000 in
set_option maxHeartbeats 4000000 in
theorem c_X4_status (l : Launch) (G : Gd) (hJ : Inj 11 G.2.2) {a1 : Int32} {V V' : VV} {r : Int32} (he : f_X4_status a1 V = some (r, V')) : MI l 11 G XM yX4_status cX4_status 4 1 25 [.ref (G.2.2 0), .int a1] (cM G V) (cM G V') r := by
  refine walk_of (own := RX4) (by decide) rfl hJ (xs_M G) (Nat.le_of_ble_eq_true rfl) ?_
  intro p e s m below meth c C hr hlk ls hl hd
  have hl : lv_has ls 4 [(0, .ref (G.2.2 0)), (1, .int a1)] := hl
  obtain ⟨⟨hx, hb, hml, hown, hts⟩, -⟩ := id C
  have L25 : ∀ (fuel : Nat) (x1 : Int32) (x2 : Int32) (x3 : Int32) (V : VV) (H : Heap) (locs : List Loc) (ls : Array Slot), lv_has ls 4 [(0, .ref (G.2.2 0)), (1, .int x1), (2, .int x2), (3, .int x3)] → Dy 11 G (cM G V) s H locs → f_X4_status_L25 fuel x1 x2 x3 V = some (r, V') → W p l e (rmF 1 25) s m ([.ref (G.2.2 0), .int a1] : List Value).toArray below meth c H locs 0 0 (MQ below (QI 11 G (cM G V') (fun r' => r' = r)) ([.ref (G.2.2 0), .int a1] : List Value).toArray s 0 0 (inA 11 G.2.2)) (F0 m 25 ls []) := by
    intro fuel
    induction fuel with
    | zero => intro x1 x2 x3 V H locs ls hl hd he; simp [f_X4_status_L25] at he
    | succ n ih25 =>
      intro x1 x2 x3 V H locs ls hl hd he
      rw [f_X4_status_L25] at he
      refine lv_iload_n hx hb dX4_status_25 rfl (lv_at hl 3 rfl) ?_
      refine lv_bipush (v := 7) hx hb dX4_status_26 (by decide) ?_
      refine lv_icmp_ge (tgt := 59) hx hb dX4_status_28 (by decide) (fun hc3 => ?_) (fun hc3 => ?_)
      · replace he := i_t hc3 he
        refine lv_iload_n hx hb dX4_status_59 rfl (lv_at hl 2 rfl) ?_
        exact retIe (cf := (cM G)) C hr hlk hd he dX4_status_60
      · replace he := i_f hc3 he
        refine lv_iload_n hx hb dX4_status_31 rfl (lv_at hl 2 rfl) ?_
        refine lv_iload_n hx hb dX4_status_32 rfl (lv_at hl 1 rfl) ?_
        refine lv_if_lt (tgt := 41) hx hb dX4_status_33 (by decide) (fun hc4 => ?_) (fun hc4 => ?_)
        · replace he := i_t hc4 he
          refine lv_aload_n hx hb dX4_status_41 rfl (lv_at hl 0 rfl) ?_
          refine rgetf C hd (by decide) cM0 rfl tgX4 4 (by decide) tw705 rfl dX4_status_42 ?_
          refine lv_iload_n hx hb dX4_status_45 rfl (lv_at hl 3 rfl) ?_
          replace he := g_some he
          obtain ⟨hi5, he⟩ := he
          refine riald C hd (by decide) cMa5 hi5 dX4_status_46 ?_
          refine lv_goto (tgt := 51) hx hb dX4_status_47 (by decide) ?_
          refine lv_iadd hx hb dX4_status_51 ?_
          refine lv_istore_n (lv' := [(2, .int _), (0, .ref _), (1, .int _), (3, .int _)]) hx hb dX4_status_52 rfl hl (by decide) rfl (fun ls hl => ?_)
          refine lv_iinc (v := _ + 1) (lv' := [(3, .int _), (2, .int _), (0, .ref _), (1, .int _)]) hx hb dX4_status_53 hl (k := 3) rfl rfl (by decide) rfl (fun ls hl => ?_)
          refine lv_goto (tgt := 25) hx hb dX4_status_56 (by decide) ?_
          exact ih25 _ _ _ _ _ _ _ (lv_sub hl [2, 3, 1, 0] rfl) hd he
        · replace he := i_f hc4 he
          refine lv_iload_n hx hb dX4_status_36 rfl (lv_at hl 3 rfl) ?_
          refine lv_iload_n hx hb dX4_status_37 rfl (lv_at hl 1 rfl) ?_
          refine lv_icmp_ne (tgt := 50) hx hb dX4_status_38 (by decide) (fun hc6 => ?_) (fun hc6 => ?_)
          · replace he := i_f hc6 he
            refine lv_iconst (v := 0) hx hb dX4_status_50 (by decide) ?_
            refine lv_iadd hx hb dX4_status_51 ?_
            refine lv_istore_n (lv' := [(2, .int _), (0, .ref _), (1, .int _), (3, .int _)]) hx hb dX4_status_52 rfl hl (by decide) rfl (fun ls hl => ?_)
            refine lv_iinc (v := _ + 1) (lv' := [(3, .int _), (2, .int _), (0, .ref _), (1, .int _)]) hx hb dX4_status_53 hl (k := 3) rfl rfl (by decide) rfl (fun ls hl => ?_)
            refine lv_goto (tgt := 25) hx hb dX4_status_56 (by decide) ?_
            exact ih25 _ _ _ _ _ _ _ (lv_sub hl [2, 3, 1, 0] rfl) hd he
          · replace he := i_t hc6 he
            refine lv_aload_n hx hb dX4_status_41 rfl (lv_at hl 0 rfl) ?_
            refine rgetf C hd (by decide) cM0 rfl tgX4 4 (by decide) tw705 rfl dX4_status_42 ?_
            refine lv_iload_n hx hb dX4_status_45 rfl (lv_at hl 3 rfl) ?_
            replace he := g_some he
            obtain ⟨hi7, he⟩ := he
            refine riald C hd (by decide) cMa5 hi7 dX4_status_46 ?_
            refine lv_goto (tgt := 51) hx hb dX4_status_47 (by decide) ?_
            refine lv_iadd hx hb dX4_status_51 ?_
            refine lv_istore_n (lv' := [(2, .int _), (0, .ref _), (1, .int _), (3, .int _)]) hx hb dX4_status_52 rfl hl (by decide) rfl (fun ls hl => ?_)
            refine lv_iinc (v := _ + 1) (lv' := [(3, .int _), (2, .int _), (0, .ref _), (1, .int _)]) hx hb dX4_status_53 hl (k := 3) rfl rfl (by decide) rfl (fun ls hl => ?_)
            refine lv_goto (tgt := 25) hx hb dX4_status_56 (by decide) ?_
            exact ih25 _ _ _ _ _ _ _ (lv_sub hl [2, 3, 1, 0] rfl) hd he
  unfold f_X4_status at he
  refine lv_iload_n hx hb dX4_status_0 rfl (lv_at hl 1 rfl) ?_
  refine lv_i2l hx hb dX4_status_1 rfl ?_
  refine lv_ldc2 hx hb hown (hts _ tw1165) dX4_status_2 ?_
  refine lv_ldc2 hx hb hown (hts _ tw1166) dX4_status_5 ?_
  replace he := b_some he
  obtain ⟨⟨r1, V1⟩, h1, he⟩ := he
  refine kSZ C hd hl.1 kw_X4_44 (c_X4_in l G hJ h1) ⟨Nat.le_of_ble_eq_true rfl, Nat.le_of_ble_eq_true rfl⟩ rfl (rest := []) rfl (Nat.le_of_ble_eq_true rfl) dX4_status_8 (fun H locs hz1 hd => ?_)
  refine lv_if_ne (tgt := 21) hx hb dX4_status_11 (by decide) (fun hc2 => ?_) (fun hc2 => ?_)
  · replace he := i_f hc2 he
    refine lv_iconst (v := 0) hx hb dX4_status_21 (by decide) ?_
    refine lv_istore_n (lv' := [(2, .int _), (0, .ref _), (1, .int _)]) hx hb dX4_status_22 rfl hl (by decide) rfl (fun ls hl => ?_)
    refine lv_iconst (v := 0) hx hb dX4_status_23 (by decide) ?_
    refine lv_istore_n (lv' := [(3, .int _), (2, .int _), (0, .ref _), (1, .int _)]) hx hb dX4_status_24 rfl hl (by decide) rfl (fun ls hl => ?_)
    exact L25 200 _ _ _ _ _ _ _ (lv_sub hl [2, 3, 1, 0] rfl) hd he
  · replace he := i_t hc2 he
    refine lv_aload_n hx hb dX4_status_14 rfl (lv_at hl 0 rfl) ?_
    refine lv_ldc hx hb hown (hts _ tw768) dX4_status_15 ?_
    replace he := b_some he
    obtain ⟨⟨r8, V8⟩, h8, he⟩ := he
    refine kVI C hd hl.1 kw_X4_66 (by decide) cM0 rfl (c_X4_finds l G hJ h8) ⟨Nat.le_of_ble_eq_true rfl, Nat.le_of_ble_eq_true rfl⟩ rfl (rest := []) rfl (Nat.le_of_ble_eq_true rfl) dX4_status_17 (fun H locs hd => ?_)
    exact retIe (cf := (cM G)) C hr hlk hd he dX4_status_20
