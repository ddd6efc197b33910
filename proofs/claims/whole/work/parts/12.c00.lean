set_option maxRecDepth 100000 in
set_option maxHeartbeats 4000000 in
theorem c_X4_in (l : Launch) (G : Gd) (hJ : Inj 11 G.2.2) {a1 : Int64} {a2 : Int64} {a3 : Int64} {V V' : VV} {r : Int32} (he : f_X4_in a1 a2 a3 V = some (r, V')) : MZ l 11 G XM yX4_in cX4_in 6 0 0 [.long a1, .long a2, .long a3] (cM G V) (cM G V') r := by
  refine walk_of (own := RX4) (by decide) rfl hJ (xs_M G) (Nat.le_of_ble_eq_true rfl) ?_
  intro p e s m below meth c C hr hlk ls hl hd
  have hl : lv_has ls 6 [(0, .long a1), (2, .long a2), (4, .long a3)] := hl
  obtain ⟨⟨hx, hb, hml, hown, hts⟩, -⟩ := id C
  unfold f_X4_in at he
  refine lv_lload_n hx hb dX4_in_0 rfl (lv_at hl 0 rfl) ?_
  refine lv_lload_n hx hb dX4_in_1 rfl (lv_at hl 1 rfl) ?_
  refine W.lcmp hx hb dX4_in_2 ?_
  refine lv_if_lt (tgt := 17) hx hb dX4_in_3 (by decide) (fun hc1 => ?_) (fun hc1 => ?_)
  · replace he := i_t hc1 he
    refine lv_iconst (v := 0) hx hb dX4_in_17 (by decide) ?_
    exact retZe (cf := (cM G)) C hr hlk hd rfl he dX4_in_18
  · replace he := i_f hc1 he
    refine lv_lload_n hx hb dX4_in_6 rfl (lv_at hl 0 rfl) ?_
    refine lv_lload hx hb dX4_in_7 (lv_at hl 2 rfl) ?_
    refine W.lcmp hx hb dX4_in_9 ?_
    refine lv_if_gt (tgt := 17) hx hb dX4_in_10 (by decide) (fun hc2 => ?_) (fun hc2 => ?_)
    · replace he := i_t hc2 he
      refine lv_iconst (v := 0) hx hb dX4_in_17 (by decide) ?_
      exact retZe (cf := (cM G)) C hr hlk hd rfl he dX4_in_18
    · replace he := i_f hc2 he
      refine lv_iconst (v := 1) hx hb dX4_in_13 (by decide) ?_
      refine lv_goto (tgt := 18) hx hb dX4_in_14 (by decide) ?_
      exact retZe (cf := (cM G)) C hr hlk hd rfl he dX4_in_18
set_option maxRecDepth 100000 in
set_option maxHeartbeats 4000000 in
theorem c_X4_finds (l : Launch) (G : Gd) (hJ : Inj 11 G.2.2) {a1 : Int32} {V V' : VV} {r : Int32} (he : f_X4_finds a1 V = some (r, V')) : MI l 11 G XM yX4_finds cX4_finds 2 0 0 [.ref (G.2.2 0), .int a1] (cM G V) (cM G V') r := by
  refine walk_of (own := RX4) (by decide) rfl hJ (xs_M G) (Nat.le_of_ble_eq_true rfl) ?_
  intro p e s m below meth c C hr hlk ls hl hd
  have hl : lv_has ls 2 [(0, .ref (G.2.2 0)), (1, .int a1)] := hl
  obtain ⟨⟨hx, hb, hml, hown, hts⟩, -⟩ := id C
  unfold f_X4_finds at he
  refine lv_aload_n hx hb dX4_finds_0 rfl (lv_at hl 0 rfl) ?_
  refine rgetf C hd (by decide) cM0 rfl tgX4 4 (by decide) tw705 rfl dX4_finds_1 ?_
  refine lv_ldc hx hb hown (hts _ tw768) dX4_finds_4 ?_
  refine lv_iload_n hx hb dX4_finds_6 rfl (lv_at hl 1 rfl) ?_
  refine lv_isub hx hb dX4_finds_7 ?_
  refine lv_dup2_11 hx hb dX4_finds_8 rfl rfl ?_
  replace he := g_some he
  obtain ⟨hi1, he⟩ := he
  refine riald C hd (by decide) cMa5 hi1 dX4_finds_9 ?_
  refine lv_iconst (v := 1) hx hb dX4_finds_10 (by decide) ?_
  refine lv_iadd hx hb dX4_finds_11 ?_
  replace he := g_some he
  obtain ⟨hi2, he⟩ := he
  replace he := bv_ex he
  obtain ⟨V3, e3, he⟩ := he
  refine riast (cell' := (cM G) V3) C hd (by decide) cMa5 hi2 (cMaw5 e3) (cM_ne e3) dX4_finds_12 (fun H locs hd => ?_)
  refine lv_iload_n hx hb dX4_finds_13 rfl (lv_at hl 1 rfl) ?_
  exact retIe (cf := (cM G)) C hr hlk hd he dX4_finds_14
set_option maxRecDepth 100000 in
set_option maxHeartbeats 4000000 in
theorem c_X4_saves (l : Launch) (G : Gd) (hJ : Inj 11 G.2.2) {V V' : VV} (he : f_X4_saves V = some V') : MV l 11 G XM yX4_saves cX4_saves 2 0 0 [.ref (G.2.2 0)] (cM G V) (cM G V') := by
  refine walk_of (own := RX4) (by decide) rfl hJ (xs_M G) (Nat.le_of_ble_eq_true rfl) ?_
  intro p e s m below meth c C hr hlk ls hl hd
  have hl : lv_has ls 2 [(0, .ref (G.2.2 0))] := hl
  obtain ⟨⟨hx, hb, hml, hown, hts⟩, -⟩ := id C
  have L2 : ∀ (fuel : Nat) (x1 : Int32) (V : VV) (H : Heap) (locs : List Loc) (ls : Array Slot), lv_has ls 2 [(0, .ref (G.2.2 0)), (1, .int x1)] → Dy 11 G (cM G V) s H locs → f_X4_saves_L2 fuel x1 V = some V' → W p l e (rmF 0 0) s m ([.ref (G.2.2 0)] : List Value).toArray below meth c H locs 0 0 (MQ below (QV 11 G (cM G V')) ([.ref (G.2.2 0)] : List Value).toArray s 0 0 (inA 11 G.2.2)) (F0 m 2 ls []) := by
    intro fuel
    induction fuel with
    | zero => intro x1 V H locs ls hl hd he; simp [f_X4_saves_L2] at he
    | succ n ih2 =>
      intro x1 V H locs ls hl hd he
      rw [f_X4_saves_L2] at he
      refine lv_iload_n hx hb dX4_saves_2 rfl (lv_at hl 1 rfl) ?_
      refine lv_bipush (v := 60) hx hb dX4_saves_3 (by decide) ?_
      refine lv_icmp_ge (tgt := 26) hx hb dX4_saves_5 (by decide) (fun hc1 => ?_) (fun hc1 => ?_)
      · replace he := i_t hc1 he
        exact retVe (cf := (cM G)) C hr hlk hd he dX4_saves_26
      · replace he := i_f hc1 he
        refine lv_aload_n hx hb dX4_saves_8 rfl (lv_at hl 0 rfl) ?_
        refine rgetf C hd (by decide) cM0 rfl tgX4 2 (by decide) tw703 rfl dX4_saves_9 ?_
        refine lv_iload_n hx hb dX4_saves_12 rfl (lv_at hl 1 rfl) ?_
        refine lv_aload_n hx hb dX4_saves_13 rfl (lv_at hl 0 rfl) ?_
        refine rgetf C hd (by decide) cM0 rfl tgX4 0 (by decide) tw701 rfl dX4_saves_14 ?_
        refine lv_iload_n hx hb dX4_saves_17 rfl (lv_at hl 1 rfl) ?_
        replace he := g_some he
        obtain ⟨hi2, he⟩ := he
        refine riald C hd (by decide) cMa1 hi2 dX4_saves_18 ?_
        replace he := g_some he
        obtain ⟨hi3, he⟩ := he
        replace he := bv_ex he
        obtain ⟨V4, e4, he⟩ := he
        refine riast (cell' := (cM G) V4) C hd (by decide) cMa3 hi3 (cMaw3 e4) (cM_ne e4) dX4_saves_19 (fun H locs hd => ?_)
        refine lv_iinc (v := _ + 1) (lv' := [(1, .int _), (0, .ref _)]) hx hb dX4_saves_20 hl (k := 1) rfl rfl (by decide) rfl (fun ls hl => ?_)
        refine lv_goto (tgt := 2) hx hb dX4_saves_23 (by decide) ?_
        exact ih2 _ _ _ _ _ (lv_sub hl [1, 0] rfl) hd he
  unfold f_X4_saves at he
  refine lv_iconst (v := 0) hx hb dX4_saves_0 (by decide) ?_
  refine lv_istore_n (lv' := [(1, .int _), (0, .ref _)]) hx hb dX4_saves_1 rfl hl (by decide) rfl (fun ls hl => ?_)
  exact L2 200 _ _ _ _ _ (lv_sub hl [1, 0] rfl) hd he
set_option maxRecDepth 100000 in
set_option maxHeartbeats 4000000 in
theorem c_X4_putsBack (l : Launch) (G : Gd) (hJ : Inj 11 G.2.2) {V V' : VV} (he : f_X4_putsBack V = some V') : MV l 11 G XM yX4_putsBack cX4_putsBack 2 0 0 [.ref (G.2.2 0)] (cM G V) (cM G V') := by
  refine walk_of (own := RX4) (by decide) rfl hJ (xs_M G) (Nat.le_of_ble_eq_true rfl) ?_
  intro p e s m below meth c C hr hlk ls hl hd
  have hl : lv_has ls 2 [(0, .ref (G.2.2 0))] := hl
  obtain ⟨⟨hx, hb, hml, hown, hts⟩, -⟩ := id C
  have L2 : ∀ (fuel : Nat) (x1 : Int32) (V : VV) (H : Heap) (locs : List Loc) (ls : Array Slot), lv_has ls 2 [(0, .ref (G.2.2 0)), (1, .int x1)] → Dy 11 G (cM G V) s H locs → f_X4_putsBack_L2 fuel x1 V = some V' → W p l e (rmF 0 0) s m ([.ref (G.2.2 0)] : List Value).toArray below meth c H locs 0 0 (MQ below (QV 11 G (cM G V')) ([.ref (G.2.2 0)] : List Value).toArray s 0 0 (inA 11 G.2.2)) (F0 m 2 ls []) := by
    intro fuel
    induction fuel with
    | zero => intro x1 V H locs ls hl hd he; simp [f_X4_putsBack_L2] at he
    | succ n ih2 =>
      intro x1 V H locs ls hl hd he
      rw [f_X4_putsBack_L2] at he
      refine lv_iload_n hx hb dX4_putsBack_2 rfl (lv_at hl 1 rfl) ?_
      refine lv_bipush (v := 60) hx hb dX4_putsBack_3 (by decide) ?_
      refine lv_icmp_ge (tgt := 26) hx hb dX4_putsBack_5 (by decide) (fun hc1 => ?_) (fun hc1 => ?_)
      · replace he := i_t hc1 he
        exact retVe (cf := (cM G)) C hr hlk hd he dX4_putsBack_26
      · replace he := i_f hc1 he
        refine lv_aload_n hx hb dX4_putsBack_8 rfl (lv_at hl 0 rfl) ?_
        refine rgetf C hd (by decide) cM0 rfl tgX4 0 (by decide) tw701 rfl dX4_putsBack_9 ?_
        refine lv_iload_n hx hb dX4_putsBack_12 rfl (lv_at hl 1 rfl) ?_
        refine lv_aload_n hx hb dX4_putsBack_13 rfl (lv_at hl 0 rfl) ?_
        refine rgetf C hd (by decide) cM0 rfl tgX4 2 (by decide) tw703 rfl dX4_putsBack_14 ?_
        refine lv_iload_n hx hb dX4_putsBack_17 rfl (lv_at hl 1 rfl) ?_
        replace he := g_some he
        obtain ⟨hi2, he⟩ := he
        refine riald C hd (by decide) cMa3 hi2 dX4_putsBack_18 ?_
        replace he := g_some he
        obtain ⟨hi3, he⟩ := he
        replace he := bv_ex he
        obtain ⟨V4, e4, he⟩ := he
        refine riast (cell' := (cM G) V4) C hd (by decide) cMa1 hi3 (cMaw1 e4) (cM_ne e4) dX4_putsBack_19 (fun H locs hd => ?_)
        refine lv_iinc (v := _ + 1) (lv' := [(1, .int _), (0, .ref _)]) hx hb dX4_putsBack_20 hl (k := 1) rfl rfl (by decide) rfl (fun ls hl => ?_)
        refine lv_goto (tgt := 2) hx hb dX4_putsBack_23 (by decide) ?_
        exact ih2 _ _ _ _ _ (lv_sub hl [1, 0] rfl) hd he
  unfold f_X4_putsBack at he
  refine lv_iconst (v := 0) hx hb dX4_putsBack_0 (by decide) ?_
  refine lv_istore_n (lv' := [(1, .int _), (0, .ref _)]) hx hb dX4_putsBack_1 rfl hl (by decide) rfl (fun ls hl => ?_)
  exact L2 200 _ _ _ _ _ (lv_sub hl [1, 0] rfl) hd he
set_option maxRecDepth 100000 in
set_option maxHeartbeats 4000000 in
theorem c_X4_laysAside (l : Launch) (G : Gd) (hJ : Inj 11 G.2.2) {V V' : VV} (he : f_X4_laysAside V = some V') : MV l 11 G XM yX4_laysAside cX4_laysAside 2 0 0 [.ref (G.2.2 0)] (cM G V) (cM G V') := by
  refine walk_of (own := RX4) (by decide) rfl hJ (xs_M G) (Nat.le_of_ble_eq_true rfl) ?_
  intro p e s m below meth c C hr hlk ls hl hd
  have hl : lv_has ls 2 [(0, .ref (G.2.2 0))] := hl
  obtain ⟨⟨hx, hb, hml, hown, hts⟩, -⟩ := id C
  have L2 : ∀ (fuel : Nat) (x1 : Int32) (V : VV) (H : Heap) (locs : List Loc) (ls : Array Slot), lv_has ls 2 [(0, .ref (G.2.2 0)), (1, .int x1)] → Dy 11 G (cM G V) s H locs → f_X4_laysAside_L2 fuel x1 V = some V' → W p l e (rmF 0 0) s m ([.ref (G.2.2 0)] : List Value).toArray below meth c H locs 0 0 (MQ below (QV 11 G (cM G V')) ([.ref (G.2.2 0)] : List Value).toArray s 0 0 (inA 11 G.2.2)) (F0 m 2 ls []) := by
    intro fuel
    induction fuel with
    | zero => intro x1 V H locs ls hl hd he; simp [f_X4_laysAside_L2] at he
    | succ n ih2 =>
      intro x1 V H locs ls hl hd he
      rw [f_X4_laysAside_L2] at he
      refine lv_iload_n hx hb dX4_laysAside_2 rfl (lv_at hl 1 rfl) ?_
      refine lv_bipush (v := 60) hx hb dX4_laysAside_3 (by decide) ?_
      refine lv_icmp_ge (tgt := 26) hx hb dX4_laysAside_5 (by decide) (fun hc1 => ?_) (fun hc1 => ?_)
      · replace he := i_t hc1 he
        exact retVe (cf := (cM G)) C hr hlk hd he dX4_laysAside_26
      · replace he := i_f hc1 he
        refine lv_aload_n hx hb dX4_laysAside_8 rfl (lv_at hl 0 rfl) ?_
        refine rgetf C hd (by decide) cM0 rfl tgX4 3 (by decide) tw704 rfl dX4_laysAside_9 ?_
        refine lv_iload_n hx hb dX4_laysAside_12 rfl (lv_at hl 1 rfl) ?_
        refine lv_aload_n hx hb dX4_laysAside_13 rfl (lv_at hl 0 rfl) ?_
        refine rgetf C hd (by decide) cM0 rfl tgX4 0 (by decide) tw701 rfl dX4_laysAside_14 ?_
        refine lv_iload_n hx hb dX4_laysAside_17 rfl (lv_at hl 1 rfl) ?_
        replace he := g_some he
        obtain ⟨hi2, he⟩ := he
        refine riald C hd (by decide) cMa1 hi2 dX4_laysAside_18 ?_
        replace he := g_some he
        obtain ⟨hi3, he⟩ := he
        replace he := bv_ex he
        obtain ⟨V4, e4, he⟩ := he
        refine riast (cell' := (cM G) V4) C hd (by decide) cMa4 hi3 (cMaw4 e4) (cM_ne e4) dX4_laysAside_19 (fun H locs hd => ?_)
        refine lv_iinc (v := _ + 1) (lv' := [(1, .int _), (0, .ref _)]) hx hb dX4_laysAside_20 hl (k := 1) rfl rfl (by decide) rfl (fun ls hl => ?_)
        refine lv_goto (tgt := 2) hx hb dX4_laysAside_23 (by decide) ?_
        exact ih2 _ _ _ _ _ (lv_sub hl [1, 0] rfl) hd he
  unfold f_X4_laysAside at he
  refine lv_iconst (v := 0) hx hb dX4_laysAside_0 (by decide) ?_
  refine lv_istore_n (lv' := [(1, .int _), (0, .ref _)]) hx hb dX4_laysAside_1 rfl hl (by decide) rfl (fun ls hl => ?_)
  exact L2 200 _ _ _ _ _ (lv_sub hl [1, 0] rfl) hd he
set_option maxRecDepth 100000 in
set_option maxHeartbeats 4000000 in
theorem c_X4_takesBack (l : Launch) (G : Gd) (hJ : Inj 11 G.2.2) {a1 : Int32} {V V' : VV} {r : Int32} (he : f_X4_takesBack a1 V = some (r, V')) : MI l 11 G XM yX4_takesBack cX4_takesBack 3 0 0 [.ref (G.2.2 0), .int a1] (cM G V) (cM G V') r := by
  refine walk_of (own := RX4) (by decide) rfl hJ (xs_M G) (Nat.le_of_ble_eq_true rfl) ?_
  intro p e s m below meth c C hr hlk ls hl hd
  have hl : lv_has ls 3 [(0, .ref (G.2.2 0)), (1, .int a1)] := hl
  obtain ⟨⟨hx, hb, hml, hown, hts⟩, -⟩ := id C
  have L2 : ∀ (fuel : Nat) (x1 : Int32) (x2 : Int32) (V : VV) (H : Heap) (locs : List Loc) (ls : Array Slot), lv_has ls 3 [(0, .ref (G.2.2 0)), (1, .int x1), (2, .int x2)] → Dy 11 G (cM G V) s H locs → f_X4_takesBack_L2 fuel x1 x2 V = some (r, V') → W p l e (rmF 0 0) s m ([.ref (G.2.2 0), .int a1] : List Value).toArray below meth c H locs 0 0 (MQ below (QI 11 G (cM G V') (fun r' => r' = r)) ([.ref (G.2.2 0), .int a1] : List Value).toArray s 0 0 (inA 11 G.2.2)) (F0 m 2 ls []) := by
    intro fuel
    induction fuel with
    | zero => intro x1 x2 V H locs ls hl hd he; simp [f_X4_takesBack_L2] at he
    | succ n ih2 =>
      intro x1 x2 V H locs ls hl hd he
      rw [f_X4_takesBack_L2] at he
      refine lv_iload_n hx hb dX4_takesBack_2 rfl (lv_at hl 2 rfl) ?_
      refine lv_bipush (v := 60) hx hb dX4_takesBack_3 (by decide) ?_
      refine lv_icmp_ge (tgt := 26) hx hb dX4_takesBack_5 (by decide) (fun hc1 => ?_) (fun hc1 => ?_)
      · replace he := i_t hc1 he
        refine lv_iload_n hx hb dX4_takesBack_26 rfl (lv_at hl 1 rfl) ?_
        exact retIe (cf := (cM G)) C hr hlk hd he dX4_takesBack_27
      · replace he := i_f hc1 he
        refine lv_aload_n hx hb dX4_takesBack_8 rfl (lv_at hl 0 rfl) ?_
        refine rgetf C hd (by decide) cM0 rfl tgX4 0 (by decide) tw701 rfl dX4_takesBack_9 ?_
        refine lv_iload_n hx hb dX4_takesBack_12 rfl (lv_at hl 2 rfl) ?_
        refine lv_aload_n hx hb dX4_takesBack_13 rfl (lv_at hl 0 rfl) ?_
        refine rgetf C hd (by decide) cM0 rfl tgX4 3 (by decide) tw704 rfl dX4_takesBack_14 ?_
        refine lv_iload_n hx hb dX4_takesBack_17 rfl (lv_at hl 2 rfl) ?_
        replace he := g_some he
        obtain ⟨hi2, he⟩ := he
        refine riald C hd (by decide) cMa4 hi2 dX4_takesBack_18 ?_
        replace he := g_some he
        obtain ⟨hi3, he⟩ := he
        replace he := bv_ex he
        obtain ⟨V4, e4, he⟩ := he
        refine riast (cell' := (cM G) V4) C hd (by decide) cMa1 hi3 (cMaw1 e4) (cM_ne e4) dX4_takesBack_19 (fun H locs hd => ?_)
        refine lv_iinc (v := _ + 1) (lv' := [(2, .int _), (0, .ref _), (1, .int _)]) hx hb dX4_takesBack_20 hl (k := 2) rfl rfl (by decide) rfl (fun ls hl => ?_)
        refine lv_goto (tgt := 2) hx hb dX4_takesBack_23 (by decide) ?_
        exact ih2 _ _ _ _ _ _ (lv_sub hl [1, 2, 0] rfl) hd he
  unfold f_X4_takesBack at he
  refine lv_iconst (v := 0) hx hb dX4_takesBack_0 (by decide) ?_
  refine lv_istore_n (lv' := [(2, .int _), (0, .ref _), (1, .int _)]) hx hb dX4_takesBack_1 rfl hl (by decide) rfl (fun ls hl => ?_)
  exact L2 200 _ _ _ _ _ _ (lv_sub hl [1, 2, 0] rfl) hd he
set_option maxRecDepth 100000 in
set_option maxHeartbeats 4000000 in
theorem c_X4_becomes (l : Launch) (G : Gd) (hJ : Inj 11 G.2.2) {a1 : Int32} {a2 : Int32} {V V' : VV} {r : Int32} (he : f_X4_becomes a1 a2 V = some (r, V')) : MI l 11 G XM yX4_becomes cX4_becomes 4 0 0 [.ref (G.2.2 0), .int a1, .int a2] (cM G V) (cM G V') r := by
  refine walk_of (own := RX4) (by decide) rfl hJ (xs_M G) (Nat.le_of_ble_eq_true rfl) ?_
  intro p e s m below meth c C hr hlk ls hl hd
  have hl : lv_has ls 4 [(0, .ref (G.2.2 0)), (1, .int a1), (2, .int a2)] := hl
  obtain ⟨⟨hx, hb, hml, hown, hts⟩, -⟩ := id C
  unfold f_X4_becomes at he
  refine lv_aload_n hx hb dX4_becomes_0 rfl (lv_at hl 0 rfl) ?_
  refine rgetf C hd (by decide) cM0 rfl tgX4 0 (by decide) tw701 rfl dX4_becomes_1 ?_
  refine lv_iload_n hx hb dX4_becomes_4 rfl (lv_at hl 1 rfl) ?_
  replace he := g_some he
  obtain ⟨hi1, he⟩ := he
  refine riald C hd (by decide) cMa1 hi1 dX4_becomes_5 ?_
  refine lv_istore_n (lv' := [(3, .int _), (0, .ref _), (1, .int _), (2, .int _)]) hx hb dX4_becomes_6 rfl hl (by decide) rfl (fun ls hl => ?_)
  refine lv_aload_n hx hb dX4_becomes_7 rfl (lv_at hl 1 rfl) ?_
  refine rgetf C hd (by decide) cM0 rfl tgX4 0 (by decide) tw701 rfl dX4_becomes_8 ?_
  refine lv_iload_n hx hb dX4_becomes_11 rfl (lv_at hl 2 rfl) ?_
  refine lv_iload_n hx hb dX4_becomes_12 rfl (lv_at hl 3 rfl) ?_
  replace he := g_some he
  obtain ⟨hi2, he⟩ := he
  replace he := bv_ex he
  obtain ⟨V3, e3, he⟩ := he
  refine riast (cell' := (cM G) V3) C hd (by decide) cMa1 hi2 (cMaw1 e3) (cM_ne e3) dX4_becomes_13 (fun H locs hd => ?_)
  refine lv_iload_n hx hb dX4_becomes_14 rfl (lv_at hl 0 rfl) ?_
  exact retIe (cf := (cM G)) C hr hlk hd he dX4_becomes_15
set_option maxRecDepth 100000 in
set_option maxHeartbeats 4000000 in
theorem c_X4_isCell (l : Launch) (G : Gd) (hJ : Inj 11 G.2.2) {a1 : Int32} {V V' : VV} {r : Int32} (he : f_X4_isCell a1 V = some (r, V')) : MZ l 11 G XM yX4_isCell cX4_isCell 1 1 25 [.int a1] (cM G V) (cM G V') r := by
  refine walk_of (own := RX4) (by decide) rfl hJ (xs_M G) (Nat.le_of_ble_eq_true rfl) ?_
  intro p e s m below meth c C hr hlk ls hl hd
  have hl : lv_has ls 1 [(0, .int a1)] := hl
  obtain ⟨⟨hx, hb, hml, hown, hts⟩, -⟩ := id C
  unfold f_X4_isCell at he
  refine lv_iload_n hx hb dX4_isCell_0 rfl (lv_at hl 0 rfl) ?_
  refine lv_i2l hx hb dX4_isCell_1 rfl ?_
  refine lv_lconst (v := 0) hx hb dX4_isCell_2 (by decide) ?_
  refine lv_ldc2 hx hb hown (hts _ tw780) dX4_isCell_3 ?_
  replace he := b_some he
  obtain ⟨⟨r1, V1⟩, h1, he⟩ := he
  refine kSZ C hd hl.1 kw_X4_44 (c_X4_in l G hJ h1) ⟨Nat.le_of_ble_eq_true rfl, Nat.le_of_ble_eq_true rfl⟩ rfl (rest := []) rfl (Nat.le_of_ble_eq_true rfl) dX4_isCell_6 (fun H locs hz1 hd => ?_)
  exact retZe (cf := (cM G)) C hr hlk hd hz1 he dX4_isCell_9
set_option maxRecDepth 100000 in
set_option maxHeartbeats 4000000 in
theorem c_X4_isWalker (l : Launch) (G : Gd) (hJ : Inj 11 G.2.2) {a1 : Int32} {V V' : VV} {r : Int32} (he : f_X4_isWalker a1 V = some (r, V')) : MZ l 11 G XM yX4_isWalker cX4_isWalker 2 1 25 [.ref (G.2.2 0), .int a1] (cM G V) (cM G V') r := by
  refine walk_of (own := RX4) (by decide) rfl hJ (xs_M G) (Nat.le_of_ble_eq_true rfl) ?_
  intro p e s m below meth c C hr hlk ls hl hd
  have hl : lv_has ls 2 [(0, .ref (G.2.2 0)), (1, .int a1)] := hl
  obtain ⟨⟨hx, hb, hml, hown, hts⟩, -⟩ := id C
  unfold f_X4_isWalker at he
  refine lv_iload_n hx hb dX4_isWalker_0 rfl (lv_at hl 1 rfl) ?_
  refine lv_i2l hx hb dX4_isWalker_1 rfl ?_
  refine lv_lconst (v := 0) hx hb dX4_isWalker_2 (by decide) ?_
  refine lv_aload_n hx hb dX4_isWalker_3 rfl (lv_at hl 0 rfl) ?_
  refine rgetf C hd (by decide) cM0 rfl tgX4 0 (by decide) tw701 rfl dX4_isWalker_4 ?_
  refine lv_iconst (v := 0) hx hb dX4_isWalker_7 (by decide) ?_
  replace he := g_some he
  obtain ⟨hi1, he⟩ := he
  refine riald C hd (by decide) cMa1 hi1 dX4_isWalker_8 ?_
  refine lv_iconst (v := 1) hx hb dX4_isWalker_9 (by decide) ?_
  refine lv_isub hx hb dX4_isWalker_10 ?_
  refine lv_i2l hx hb dX4_isWalker_11 rfl ?_
  replace he := b_some he
  obtain ⟨⟨r2, V2⟩, h2, he⟩ := he
  refine kSZ C hd hl.1 kw_X4_44 (c_X4_in l G hJ h2) ⟨Nat.le_of_ble_eq_true rfl, Nat.le_of_ble_eq_true rfl⟩ rfl (rest := []) rfl (Nat.le_of_ble_eq_true rfl) dX4_isWalker_12 (fun H locs hz2 hd => ?_)
  exact retZe (cf := (cM G)) C hr hlk hd hz2 he dX4_isWalker_15
set_option maxRecDepth 100000 in
set_option maxHeartbeats 4000000 in
theorem c_X4_areTwo (l : Launch) (G : Gd) (hJ : Inj 11 G.2.2) {a1 : Int32} {a2 : Int32} {V V' : VV} {r : Int32} (he : f_X4_areTwo a1 a2 V = some (r, V')) : MZ l 11 G XM yX4_areTwo cX4_areTwo 3 2 46 [.ref (G.2.2 0), .int a1, .int a2] (cM G V) (cM G V') r := by
  refine walk_of (own := RX4) (by decide) rfl hJ (xs_M G) (Nat.le_of_ble_eq_true rfl) ?_
  intro p e s m below meth c C hr hlk ls hl hd
  have hl : lv_has ls 3 [(0, .ref (G.2.2 0)), (1, .int a1), (2, .int a2)] := hl
  obtain ⟨⟨hx, hb, hml, hown, hts⟩, -⟩ := id C
  unfold f_X4_areTwo at he
  refine lv_aload_n hx hb dX4_areTwo_0 rfl (lv_at hl 0 rfl) ?_
  refine lv_iload_n hx hb dX4_areTwo_1 rfl (lv_at hl 1 rfl) ?_
  replace he := b_some he
  obtain ⟨⟨r1, V1⟩, h1, he⟩ := he
  refine kVZ C hd hl.1 kw_X4_48 (by decide) cM0 rfl (c_X4_isWalker l G hJ h1) ⟨Nat.le_of_ble_eq_true rfl, Nat.le_of_ble_eq_true rfl⟩ rfl (rest := []) rfl (Nat.le_of_ble_eq_true rfl) dX4_areTwo_2 (fun H locs hz1 hd => ?_)
  refine lv_if_eq (tgt := 25) hx hb dX4_areTwo_5 (by decide) (fun hc2 => ?_) (fun hc2 => ?_)
  · replace he := i_t hc2 he
    refine lv_iconst (v := 0) hx hb dX4_areTwo_25 (by decide) ?_
    exact retZe (cf := (cM G)) C hr hlk hd rfl he dX4_areTwo_26
  · replace he := i_f hc2 he
    refine lv_aload_n hx hb dX4_areTwo_8 rfl (lv_at hl 0 rfl) ?_
    refine lv_iload_n hx hb dX4_areTwo_9 rfl (lv_at hl 2 rfl) ?_
    replace he := b_some he
    obtain ⟨⟨r3, V3⟩, h3, he⟩ := he
    refine kVZ C hd hl.1 kw_X4_48 (by decide) cM0 rfl (c_X4_isWalker l G hJ h3) ⟨Nat.le_of_ble_eq_true rfl, Nat.le_of_ble_eq_true rfl⟩ rfl (rest := []) rfl (Nat.le_of_ble_eq_true rfl) dX4_areTwo_10 (fun H locs hz3 hd => ?_)
    refine lv_if_eq (tgt := 25) hx hb dX4_areTwo_13 (by decide) (fun hc4 => ?_) (fun hc4 => ?_)
    · replace he := i_t hc4 he
      refine lv_iconst (v := 0) hx hb dX4_areTwo_25 (by decide) ?_
      exact retZe (cf := (cM G)) C hr hlk hd rfl he dX4_areTwo_26
    · replace he := i_f hc4 he
      refine lv_iload_n hx hb dX4_areTwo_16 rfl (lv_at hl 1 rfl) ?_
      refine lv_iload_n hx hb dX4_areTwo_17 rfl (lv_at hl 2 rfl) ?_
      refine lv_icmp_eq (tgt := 25) hx hb dX4_areTwo_18 (by decide) (fun hc5 => ?_) (fun hc5 => ?_)
      · replace he := i_t hc5 he
        refine lv_iconst (v := 0) hx hb dX4_areTwo_25 (by decide) ?_
        exact retZe (cf := (cM G)) C hr hlk hd rfl he dX4_areTwo_26
      · replace he := i_f hc5 he
        refine lv_iconst (v := 1) hx hb dX4_areTwo_21 (by decide) ?_
        refine lv_goto (tgt := 26) hx hb dX4_areTwo_22 (by decide) ?_
        exact retZe (cf := (cM G)) C hr hlk hd rfl he dX4_areTwo_26
set_option maxRecDepth 100000 in
set_option maxHeartbeats 4000000 in
theorem c_X4_isKind (l : Launch) (G : Gd) (hJ : Inj 11 G.2.2) {a1 : Int32} {V V' : VV} {r : Int32} (he : f_X4_isKind a1 V = some (r, V')) : MZ l 11 G XM yX4_isKind cX4_isKind 1 1 25 [.int a1] (cM G V) (cM G V') r := by
  refine walk_of (own := RX4) (by decide) rfl hJ (xs_M G) (Nat.le_of_ble_eq_true rfl) ?_
  intro p e s m below meth c C hr hlk ls hl hd
  have hl : lv_has ls 1 [(0, .int a1)] := hl
  obtain ⟨⟨hx, hb, hml, hown, hts⟩, -⟩ := id C
  unfold f_X4_isKind at he
  refine lv_iload_n hx hb dX4_isKind_0 rfl (lv_at hl 0 rfl) ?_
  refine lv_i2l hx hb dX4_isKind_1 rfl ?_
  refine lv_lconst (v := 0) hx hb dX4_isKind_2 (by decide) ?_
  refine lv_ldc2 hx hb hown (hts _ tw803) dX4_isKind_3 ?_
  replace he := b_some he
  obtain ⟨⟨r1, V1⟩, h1, he⟩ := he
  refine kSZ C hd hl.1 kw_X4_44 (c_X4_in l G hJ h1) ⟨Nat.le_of_ble_eq_true rfl, Nat.le_of_ble_eq_true rfl⟩ rfl (rest := []) rfl (Nat.le_of_ble_eq_true rfl) dX4_isKind_6 (fun H locs hz1 hd => ?_)
  exact retZe (cf := (cM G)) C hr hlk hd hz1 he dX4_isKind_9
set_option maxRecDepth 100000 in
set_option maxHeartbeats 4000000 in
theorem c_X4_spotOf (l : Launch) (G : Gd) (hJ : Inj 11 G.2.2) {a1 : Int32} {a2 : Int32} {V V' : VV} {r : Int32} (he : f_X4_spotOf a1 a2 V = some (r, V')) : MI l 11 G XM yX4_spotOf cX4_spotOf 2 0 0 [.int a1, .int a2] (cM G V) (cM G V') r := by
  refine walk_of (own := RX4) (by decide) rfl hJ (xs_M G) (Nat.le_of_ble_eq_true rfl) ?_
  intro p e s m below meth c C hr hlk ls hl hd
  have hl : lv_has ls 2 [(0, .int a1), (1, .int a2)] := hl
  obtain ⟨⟨hx, hb, hml, hown, hts⟩, -⟩ := id C
  unfold f_X4_spotOf at he
  refine lv_iconst (v := 4) hx hb dX4_spotOf_0 (by decide) ?_
  refine lv_bipush (v := 7) hx hb dX4_spotOf_1 (by decide) ?_
  refine lv_iload_n hx hb dX4_spotOf_3 rfl (lv_at hl 0 rfl) ?_
  refine lv_imul hx hb dX4_spotOf_4 ?_
  refine lv_iadd hx hb dX4_spotOf_5 ?_
  refine lv_iload_n hx hb dX4_spotOf_6 rfl (lv_at hl 1 rfl) ?_
  refine lv_iadd hx hb dX4_spotOf_7 ?_
  exact retIe (cf := (cM G)) C hr hlk hd he dX4_spotOf_8
set_option maxRecDepth 100000 in
set_option maxHeartbeats 4000000 in
theorem c_X4_its (l : Launch) (G : Gd) (hJ : Inj 11 G.2.2) {a1 : Int32} {a2 : Int32} {V V' : VV} {r : Int32} (he : f_X4_its a1 a2 V = some (r, V')) : MI l 11 G XM yX4_its cX4_its 3 1 21 [.ref (G.2.2 0), .int a1, .int a2] (cM G V) (cM G V') r := by
  refine walk_of (own := RX4) (by decide) rfl hJ (xs_M G) (Nat.le_of_ble_eq_true rfl) ?_
  intro p e s m below meth c C hr hlk ls hl hd
  have hl : lv_has ls 3 [(0, .ref (G.2.2 0)), (1, .int a1), (2, .int a2)] := hl
  obtain ⟨⟨hx, hb, hml, hown, hts⟩, -⟩ := id C
  unfold f_X4_its at he
  refine lv_aload_n hx hb dX4_its_0 rfl (lv_at hl 0 rfl) ?_
  refine rgetf C hd (by decide) cM0 rfl tgX4 0 (by decide) tw701 rfl dX4_its_1 ?_
  refine lv_iload_n hx hb dX4_its_4 rfl (lv_at hl 1 rfl) ?_
  refine lv_iload_n hx hb dX4_its_5 rfl (lv_at hl 2 rfl) ?_
  replace he := b_some he
  obtain ⟨⟨r1, V1⟩, h1, he⟩ := he
  refine kSI C hd hl.1 kw_X4_54 (c_X4_spotOf l G hJ h1) ⟨Nat.le_of_ble_eq_true rfl, Nat.le_of_ble_eq_true rfl⟩ rfl (rest := [.ref _]) rfl (Nat.le_of_ble_eq_true rfl) dX4_its_6 (fun H locs hd => ?_)
  replace he := g_some he
  obtain ⟨hi2, he⟩ := he
  refine riald C hd (by decide) cMa1 hi2 dX4_its_9 ?_
  exact retIe (cf := (cM G)) C hr hlk hd he dX4_its_10
set_option maxRecDepth 100000 in
set_option maxHeartbeats 4000000 in
theorem c_X4_isFree (l : Launch) (G : Gd) (hJ : Inj 11 G.2.2) {a1 : Int32} {V V' : VV} {r : Int32} (he : f_X4_isFree a1 V = some (r, V')) : MZ l 11 G XM yX4_isFree cX4_isFree 2 2 43 [.ref (G.2.2 0), .int a1] (cM G V) (cM G V') r := by
  refine walk_of (own := RX4) (by decide) rfl hJ (xs_M G) (Nat.le_of_ble_eq_true rfl) ?_
  intro p e s m below meth c C hr hlk ls hl hd
  have hl : lv_has ls 2 [(0, .ref (G.2.2 0)), (1, .int a1)] := hl
  obtain ⟨⟨hx, hb, hml, hown, hts⟩, -⟩ := id C
  unfold f_X4_isFree at he
  refine lv_aload_n hx hb dX4_isFree_0 rfl (lv_at hl 0 rfl) ?_
  refine lv_iload_n hx hb dX4_isFree_1 rfl (lv_at hl 1 rfl) ?_
  refine lv_iconst (v := 5) hx hb dX4_isFree_2 (by decide) ?_
  replace he := b_some he
  obtain ⟨⟨r1, V1⟩, h1, he⟩ := he
  refine kVI C hd hl.1 kw_X4_58 (by decide) cM0 rfl (c_X4_its l G hJ h1) ⟨Nat.le_of_ble_eq_true rfl, Nat.le_of_ble_eq_true rfl⟩ rfl (rest := []) rfl (Nat.le_of_ble_eq_true rfl) dX4_isFree_3 (fun H locs hd => ?_)
  refine lv_iconst (v := (-1)) hx hb dX4_isFree_6 (by decide) ?_
  refine lv_icmp_ne (tgt := 14) hx hb dX4_isFree_7 (by decide) (fun hc2 => ?_) (fun hc2 => ?_)
  · replace he := i_f hc2 he
    refine lv_iconst (v := 0) hx hb dX4_isFree_14 (by decide) ?_
    exact retZe (cf := (cM G)) C hr hlk hd rfl he dX4_isFree_15
  · replace he := i_t hc2 he
    refine lv_iconst (v := 1) hx hb dX4_isFree_10 (by decide) ?_
    refine lv_goto (tgt := 15) hx hb dX4_isFree_11 (by decide) ?_
    exact retZe (cf := (cM G)) C hr hlk hd rfl he dX4_isFree_15
set_option maxRecDepth 100000 in
set_option maxHeartbeats 4000000 in
theorem c_X4_fog (l : Launch) (G : Gd) (hJ : Inj 11 G.2.2) {a1 : Int32} {V V' : VV} {r : Int32} (he : f_X4_fog a1 V = some (r, V')) : MI l 11 G XM yX4_fog cX4_fog 2 1 25 [.ref (G.2.2 0), .int a1] (cM G V) (cM G V') r := by
  refine walk_of (own := RX4) (by decide) rfl hJ (xs_M G) (Nat.le_of_ble_eq_true rfl) ?_
  intro p e s m below meth c C hr hlk ls hl hd
  have hl : lv_has ls 2 [(0, .ref (G.2.2 0)), (1, .int a1)] := hl
  obtain ⟨⟨hx, hb, hml, hown, hts⟩, -⟩ := id C
  unfold f_X4_fog at he
  refine lv_iload_n hx hb dX4_fog_0 rfl (lv_at hl 1 rfl) ?_
  refine lv_i2l hx hb dX4_fog_1 rfl ?_
  refine lv_lconst (v := 0) hx hb dX4_fog_2 (by decide) ?_
  refine lv_ldc2 hx hb hown (hts _ tw760) dX4_fog_3 ?_
  replace he := b_some he
  obtain ⟨⟨r1, V1⟩, h1, he⟩ := he
  refine kSZ C hd hl.1 kw_X4_44 (c_X4_in l G hJ h1) ⟨Nat.le_of_ble_eq_true rfl, Nat.le_of_ble_eq_true rfl⟩ rfl (rest := []) rfl (Nat.le_of_ble_eq_true rfl) dX4_fog_6 (fun H locs hz1 hd => ?_)
  refine lv_if_eq (tgt := 21) hx hb dX4_fog_9 (by decide) (fun hc2 => ?_) (fun hc2 => ?_)
  · replace he := i_t hc2 he
    refine lv_aload_n hx hb dX4_fog_21 rfl (lv_at hl 0 rfl) ?_
    refine lv_ldc hx hb hown (hts _ tw768) dX4_fog_22 ?_
    replace he := b_some he
    obtain ⟨⟨r3, V3⟩, h3, he⟩ := he
    refine kVI C hd hl.1 kw_X4_66 (by decide) cM0 rfl (c_X4_finds l G hJ h3) ⟨Nat.le_of_ble_eq_true rfl, Nat.le_of_ble_eq_true rfl⟩ rfl (rest := []) rfl (Nat.le_of_ble_eq_true rfl) dX4_fog_24 (fun H locs hd => ?_)
    exact retIe (cf := (cM G)) C hr hlk hd he dX4_fog_27
  · replace he := i_f hc2 he
    refine lv_aload_n hx hb dX4_fog_12 rfl (lv_at hl 0 rfl) ?_
    refine lv_iconst (v := 2) hx hb dX4_fog_13 (by decide) ?_
    refine lv_iload_n hx hb dX4_fog_14 rfl (lv_at hl 1 rfl) ?_
    replace he := b_some he
    obtain ⟨⟨r4, V4⟩, h4, he⟩ := he
    refine kVI C hd hl.1 kw_X4_63 (by decide) cM0 rfl (c_X4_becomes l G hJ h4) ⟨Nat.le_of_ble_eq_true rfl, Nat.le_of_ble_eq_true rfl⟩ rfl (rest := []) rfl (Nat.le_of_ble_eq_true rfl) dX4_fog_15 (fun H locs hd => ?_)
    refine lv_goto (tgt := 27) hx hb dX4_fog_18 (by decide) ?_
    exact retIe (cf := (cM G)) C hr hlk hd he dX4_fog_27
set_option maxRecDepth 100000 in
set_option maxHeartbeats 4000000 in
theorem c_X4_village (l : Launch) (G : Gd) (hJ : Inj 11 G.2.2) {a1 : Int32} {V V' : VV} {r : Int32} (he : f_X4_village a1 V = some (r, V')) : MI l 11 G XM yX4_village cX4_village 2 2 45 [.ref (G.2.2 0), .int a1] (cM G V) (cM G V') r := by
  refine walk_of (own := RX4) (by decide) rfl hJ (xs_M G) (Nat.le_of_ble_eq_true rfl) ?_
  intro p e s m below meth c C hr hlk ls hl hd
  have hl : lv_has ls 2 [(0, .ref (G.2.2 0)), (1, .int a1)] := hl
  obtain ⟨⟨hx, hb, hml, hown, hts⟩, -⟩ := id C
  unfold f_X4_village at he
  refine lv_iload_n hx hb dX4_village_0 rfl (lv_at hl 1 rfl) ?_
  replace he := b_some he
  obtain ⟨⟨r1, V1⟩, h1, he⟩ := he
  refine kSZ C hd hl.1 kw_X4_70 (c_X4_isCell l G hJ h1) ⟨Nat.le_of_ble_eq_true rfl, Nat.le_of_ble_eq_true rfl⟩ rfl (rest := []) rfl (Nat.le_of_ble_eq_true rfl) dX4_village_1 (fun H locs hz1 hd => ?_)
  refine lv_if_eq (tgt := 16) hx hb dX4_village_4 (by decide) (fun hc2 => ?_) (fun hc2 => ?_)
  · replace he := i_t hc2 he
    refine lv_aload_n hx hb dX4_village_16 rfl (lv_at hl 0 rfl) ?_
    refine lv_ldc hx hb hown (hts _ tw768) dX4_village_17 ?_
    replace he := b_some he
    obtain ⟨⟨r3, V3⟩, h3, he⟩ := he
    refine kVI C hd hl.1 kw_X4_66 (by decide) cM0 rfl (c_X4_finds l G hJ h3) ⟨Nat.le_of_ble_eq_true rfl, Nat.le_of_ble_eq_true rfl⟩ rfl (rest := []) rfl (Nat.le_of_ble_eq_true rfl) dX4_village_19 (fun H locs hd => ?_)
    exact retIe (cf := (cM G)) C hr hlk hd he dX4_village_22
  · replace he := i_f hc2 he
    refine lv_aload_n hx hb dX4_village_7 rfl (lv_at hl 0 rfl) ?_
    refine lv_iconst (v := 3) hx hb dX4_village_8 (by decide) ?_
    refine lv_iload_n hx hb dX4_village_9 rfl (lv_at hl 1 rfl) ?_
    replace he := b_some he
    obtain ⟨⟨r4, V4⟩, h4, he⟩ := he
    refine kVI C hd hl.1 kw_X4_63 (by decide) cM0 rfl (c_X4_becomes l G hJ h4) ⟨Nat.le_of_ble_eq_true rfl, Nat.le_of_ble_eq_true rfl⟩ rfl (rest := []) rfl (Nat.le_of_ble_eq_true rfl) dX4_village_10 (fun H locs hd => ?_)
    refine lv_goto (tgt := 22) hx hb dX4_village_13 (by decide) ?_
    exact retIe (cf := (cM G)) C hr hlk hd he dX4_village_22
set_option maxRecDepth 100000 in
set_option maxHeartbeats 4000000 in
theorem c_X4_thoseAt (l : Launch) (G : Gd) (hJ : Inj 11 G.2.2) {a1 : Int32} {V V' : VV} {r : Int32} (he : f_X4_thoseAt a1 V = some (r, V')) : MI l 11 G XM yX4_thoseAt cX4_thoseAt 4 2 43 [.ref (G.2.2 0), .int a1] (cM G V) (cM G V') r := by
  refine walk_of (own := RX4) (by decide) rfl hJ (xs_M G) (Nat.le_of_ble_eq_true rfl) ?_
  intro p e s m below meth c C hr hlk ls hl hd
  have hl : lv_has ls 4 [(0, .ref (G.2.2 0)), (1, .int a1)] := hl
  obtain ⟨⟨hx, hb, hml, hown, hts⟩, -⟩ := id C
  have L4 : ∀ (fuel : Nat) (x1 : Int32) (x2 : Int32) (x3 : Int32) (V : VV) (H : Heap) (locs : List Loc) (ls : Array Slot), lv_has ls 4 [(0, .ref (G.2.2 0)), (1, .int x1), (2, .int x2), (3, .int x3)] → Dy 11 G (cM G V) s H locs → f_X4_thoseAt_L4 fuel x1 x2 x3 V = some (r, V') → W p l e (rmF 2 43) s m ([.ref (G.2.2 0), .int a1] : List Value).toArray below meth c H locs 0 0 (MQ below (QI 11 G (cM G V') (fun r' => r' = r)) ([.ref (G.2.2 0), .int a1] : List Value).toArray s 0 0 (inA 11 G.2.2)) (F0 m 4 ls []) := by
    intro fuel
    induction fuel with
    | zero => intro x1 x2 x3 V H locs ls hl hd he; simp [f_X4_thoseAt_L4] at he
    | succ n ih4 =>
      intro x1 x2 x3 V H locs ls hl hd he
      rw [f_X4_thoseAt_L4] at he
      refine lv_iload_n hx hb dX4_thoseAt_4 rfl (lv_at hl 3 rfl) ?_
      refine lv_aload_n hx hb dX4_thoseAt_5 rfl (lv_at hl 0 rfl) ?_
      refine rgetf C hd (by decide) cM0 rfl tgX4 0 (by decide) tw701 rfl dX4_thoseAt_6 ?_
      refine lv_iconst (v := 0) hx hb dX4_thoseAt_9 (by decide) ?_
      replace he := g_some he
      obtain ⟨hi1, he⟩ := he
      refine riald C hd (by decide) cMa1 hi1 dX4_thoseAt_10 ?_
      refine lv_icmp_ge (tgt := 40) hx hb dX4_thoseAt_11 (by decide) (fun hc2 => ?_) (fun hc2 => ?_)
      · replace he := i_t hc2 he
        refine lv_iload_n hx hb dX4_thoseAt_40 rfl (lv_at hl 2 rfl) ?_
        exact retIe (cf := (cM G)) C hr hlk hd he dX4_thoseAt_41
      · replace he := i_f hc2 he
        refine lv_iload_n hx hb dX4_thoseAt_14 rfl (lv_at hl 2 rfl) ?_
        refine lv_aload_n hx hb dX4_thoseAt_15 rfl (lv_at hl 0 rfl) ?_
        refine lv_iload_n hx hb dX4_thoseAt_16 rfl (lv_at hl 3 rfl) ?_
        refine lv_iconst (v := 1) hx hb dX4_thoseAt_17 (by decide) ?_
        replace he := b_some he
        obtain ⟨⟨r3, V3⟩, h3, he⟩ := he
        refine kVI C hd hl.1 kw_X4_58 (by decide) cM0 rfl (c_X4_its l G hJ h3) ⟨Nat.le_of_ble_eq_true rfl, Nat.le_of_ble_eq_true rfl⟩ rfl (rest := [.int _]) rfl (Nat.le_of_ble_eq_true rfl) dX4_thoseAt_18 (fun H locs hd => ?_)
        refine lv_iload_n hx hb dX4_thoseAt_21 rfl (lv_at hl 1 rfl) ?_
        refine lv_icmp_ne (tgt := 31) hx hb dX4_thoseAt_22 (by decide) (fun hc4 => ?_) (fun hc4 => ?_)
        · replace he := i_f hc4 he
          refine lv_iconst (v := 0) hx hb dX4_thoseAt_31 (by decide) ?_
          refine lv_ior hx hb dX4_thoseAt_32 ?_
          refine lv_istore_n (lv' := [(2, .int _), (0, .ref _), (1, .int _), (3, .int _)]) hx hb dX4_thoseAt_33 rfl hl (by decide) rfl (fun ls hl => ?_)
          refine lv_iinc (v := _ + 1) (lv' := [(3, .int _), (2, .int _), (0, .ref _), (1, .int _)]) hx hb dX4_thoseAt_34 hl (k := 3) rfl rfl (by decide) rfl (fun ls hl => ?_)
          refine lv_goto (tgt := 4) hx hb dX4_thoseAt_37 (by decide) ?_
          exact ih4 _ _ _ _ _ _ _ (lv_sub hl [2, 3, 1, 0] rfl) hd he
        · replace he := i_t hc4 he
          refine lv_iconst (v := 1) hx hb dX4_thoseAt_25 (by decide) ?_
          refine lv_iload_n hx hb dX4_thoseAt_26 rfl (lv_at hl 3 rfl) ?_
          refine lv_ishl hx hb dX4_thoseAt_27 ?_
          refine lv_goto (tgt := 32) hx hb dX4_thoseAt_28 (by decide) ?_
          refine lv_ior hx hb dX4_thoseAt_32 ?_
          refine lv_istore_n (lv' := [(2, .int _), (0, .ref _), (1, .int _), (3, .int _)]) hx hb dX4_thoseAt_33 rfl hl (by decide) rfl (fun ls hl => ?_)
          refine lv_iinc (v := _ + 1) (lv' := [(3, .int _), (2, .int _), (0, .ref _), (1, .int _)]) hx hb dX4_thoseAt_34 hl (k := 3) rfl rfl (by decide) rfl (fun ls hl => ?_)
          refine lv_goto (tgt := 4) hx hb dX4_thoseAt_37 (by decide) ?_
          exact ih4 _ _ _ _ _ _ _ (lv_sub hl [2, 3, 1, 0] rfl) hd he
  unfold f_X4_thoseAt at he
  refine lv_iconst (v := 0) hx hb dX4_thoseAt_0 (by decide) ?_
  refine lv_istore_n (lv' := [(2, .int _), (0, .ref _), (1, .int _)]) hx hb dX4_thoseAt_1 rfl hl (by decide) rfl (fun ls hl => ?_)
  refine lv_iconst (v := 0) hx hb dX4_thoseAt_2 (by decide) ?_
  refine lv_istore_n (lv' := [(3, .int _), (2, .int _), (0, .ref _), (1, .int _)]) hx hb dX4_thoseAt_3 rfl hl (by decide) rfl (fun ls hl => ?_)
  exact L4 200 _ _ _ _ _ _ _ (lv_sub hl [2, 3, 1, 0] rfl) hd he
set_option maxRecDepth 100000 in
set_option maxHeartbeats 4000000 in
theorem c_X4_at (l : Launch) (G : Gd) (hJ : Inj 11 G.2.2) {a1 : Int32} {V V' : VV} {r : Int32} (he : f_X4_at a1 V = some (r, V')) : MI l 11 G XM yX4_at cX4_at 2 3 66 [.ref (G.2.2 0), .int a1] (cM G V) (cM G V') r := by
  refine walk_of (own := RX4) (by decide) rfl hJ (xs_M G) (Nat.le_of_ble_eq_true rfl) ?_
  intro p e s m below meth c C hr hlk ls hl hd
  have hl : lv_has ls 2 [(0, .ref (G.2.2 0)), (1, .int a1)] := hl
  obtain ⟨⟨hx, hb, hml, hown, hts⟩, -⟩ := id C
  unfold f_X4_at at he
  refine lv_iload_n hx hb dX4_at_0 rfl (lv_at hl 1 rfl) ?_
  replace he := b_some he
  obtain ⟨⟨r1, V1⟩, h1, he⟩ := he
  refine kSZ C hd hl.1 kw_X4_70 (c_X4_isCell l G hJ h1) ⟨Nat.le_of_ble_eq_true rfl, Nat.le_of_ble_eq_true rfl⟩ rfl (rest := []) rfl (Nat.le_of_ble_eq_true rfl) dX4_at_1 (fun H locs hz1 hd => ?_)
  refine lv_if_eq (tgt := 15) hx hb dX4_at_4 (by decide) (fun hc2 => ?_) (fun hc2 => ?_)
  · replace he := i_t hc2 he
    refine lv_aload_n hx hb dX4_at_15 rfl (lv_at hl 0 rfl) ?_
    refine lv_ldc hx hb hown (hts _ tw768) dX4_at_16 ?_
    replace he := b_some he
    obtain ⟨⟨r3, V3⟩, h3, he⟩ := he
    refine kVI C hd hl.1 kw_X4_66 (by decide) cM0 rfl (c_X4_finds l G hJ h3) ⟨Nat.le_of_ble_eq_true rfl, Nat.le_of_ble_eq_true rfl⟩ rfl (rest := []) rfl (Nat.le_of_ble_eq_true rfl) dX4_at_18 (fun H locs hd => ?_)
    exact retIe (cf := (cM G)) C hr hlk hd he dX4_at_21
  · replace he := i_f hc2 he
    refine lv_aload_n hx hb dX4_at_7 rfl (lv_at hl 0 rfl) ?_
    refine lv_iload_n hx hb dX4_at_8 rfl (lv_at hl 1 rfl) ?_
    replace he := b_some he
    obtain ⟨⟨r4, V4⟩, h4, he⟩ := he
    refine kVI C hd hl.1 kw_X4_73 (by decide) cM0 rfl (c_X4_thoseAt l G hJ h4) ⟨Nat.le_of_ble_eq_true rfl, Nat.le_of_ble_eq_true rfl⟩ rfl (rest := []) rfl (Nat.le_of_ble_eq_true rfl) dX4_at_9 (fun H locs hd => ?_)
    refine lv_goto (tgt := 21) hx hb dX4_at_12 (by decide) ?_
    exact retIe (cf := (cM G)) C hr hlk hd he dX4_at_21
set_option maxRecDepth 100000 in
set_option maxHeartbeats 4000000 in
theorem c_X4_adds (l : Launch) (G : Gd) (hJ : Inj 11 G.2.2) {a1 : Int32} {a2 : Int32} {V V' : VV} {r : Int32} (he : f_X4_adds a1 a2 V = some (r, V')) : MI l 11 G XM yX4_adds cX4_adds 4 1 21 [.ref (G.2.2 0), .int a1, .int a2] (cM G V) (cM G V') r := by
  refine walk_of (own := RX4) (by decide) rfl hJ (xs_M G) (Nat.le_of_ble_eq_true rfl) ?_
  intro p e s m below meth c C hr hlk ls hl hd
  have hl : lv_has ls 4 [(0, .ref (G.2.2 0)), (1, .int a1), (2, .int a2)] := hl
  obtain ⟨⟨hx, hb, hml, hown, hts⟩, -⟩ := id C
  unfold f_X4_adds at he
  refine lv_aload_n hx hb dX4_adds_0 rfl (lv_at hl 0 rfl) ?_
  refine rgetf C hd (by decide) cM0 rfl tgX4 0 (by decide) tw701 rfl dX4_adds_1 ?_
  refine lv_iconst (v := 0) hx hb dX4_adds_4 (by decide) ?_
  replace he := g_some he
  obtain ⟨hi1, he⟩ := he
  refine riald C hd (by decide) cMa1 hi1 dX4_adds_5 ?_
  refine lv_istore_n (lv' := [(3, .int _), (0, .ref _), (1, .int _), (2, .int _)]) hx hb dX4_adds_6 rfl hl (by decide) rfl (fun ls hl => ?_)
  refine lv_aload_n hx hb dX4_adds_7 rfl (lv_at hl 1 rfl) ?_
  refine rgetf C hd (by decide) cM0 rfl tgX4 0 (by decide) tw701 rfl dX4_adds_8 ?_
  refine lv_iload_n hx hb dX4_adds_11 rfl (lv_at hl 0 rfl) ?_
  refine lv_iconst (v := 0) hx hb dX4_adds_12 (by decide) ?_
  replace he := b_some he
  obtain ⟨⟨r2, V2⟩, h2, he⟩ := he
  refine kSI C hd hl.1 kw_X4_54 (c_X4_spotOf l G hJ h2) ⟨Nat.le_of_ble_eq_true rfl, Nat.le_of_ble_eq_true rfl⟩ rfl (rest := [.ref _]) rfl (Nat.le_of_ble_eq_true rfl) dX4_adds_13 (fun H locs hd => ?_)
  refine lv_iload_n hx hb dX4_adds_16 rfl (lv_at hl 2 rfl) ?_
  replace he := g_some he
  obtain ⟨hi3, he⟩ := he
  replace he := bv_ex he
  obtain ⟨V4, e4, he⟩ := he
  refine riast (cell' := (cM G) V4) C hd (by decide) cMa1 hi3 (cMaw1 e4) (cM_ne e4) dX4_adds_17 (fun H locs hd => ?_)
  refine lv_aload_n hx hb dX4_adds_18 rfl (lv_at hl 1 rfl) ?_
  refine rgetf C hd (by decide) cM0 rfl tgX4 0 (by decide) tw701 rfl dX4_adds_19 ?_
  refine lv_iload_n hx hb dX4_adds_22 rfl (lv_at hl 0 rfl) ?_
  refine lv_iconst (v := 1) hx hb dX4_adds_23 (by decide) ?_
  replace he := b_some he
  obtain ⟨⟨r5, V5⟩, h5, he⟩ := he
  refine kSI C hd hl.1 kw_X4_54 (c_X4_spotOf l G hJ h5) ⟨Nat.le_of_ble_eq_true rfl, Nat.le_of_ble_eq_true rfl⟩ rfl (rest := [.ref _]) rfl (Nat.le_of_ble_eq_true rfl) dX4_adds_24 (fun H locs hd => ?_)
  refine lv_iload_n hx hb dX4_adds_27 rfl (lv_at hl 3 rfl) ?_
  replace he := g_some he
  obtain ⟨hi6, he⟩ := he
  replace he := bv_ex he
  obtain ⟨V7, e7, he⟩ := he
  refine riast (cell' := (cM G) V7) C hd (by decide) cMa1 hi6 (cMaw1 e7) (cM_ne e7) dX4_adds_28 (fun H locs hd => ?_)
  refine lv_aload_n hx hb dX4_adds_29 rfl (lv_at hl 1 rfl) ?_
  refine rgetf C hd (by decide) cM0 rfl tgX4 0 (by decide) tw701 rfl dX4_adds_30 ?_
  refine lv_iload_n hx hb dX4_adds_33 rfl (lv_at hl 0 rfl) ?_
  refine lv_iconst (v := 2) hx hb dX4_adds_34 (by decide) ?_
  replace he := b_some he
  obtain ⟨⟨r8, V8⟩, h8, he⟩ := he
  refine kSI C hd hl.1 kw_X4_54 (c_X4_spotOf l G hJ h8) ⟨Nat.le_of_ble_eq_true rfl, Nat.le_of_ble_eq_true rfl⟩ rfl (rest := [.ref _]) rfl (Nat.le_of_ble_eq_true rfl) dX4_adds_35 (fun H locs hd => ?_)
  refine lv_iload_n hx hb dX4_adds_38 rfl (lv_at hl 3 rfl) ?_
  replace he := g_some he
  obtain ⟨hi9, he⟩ := he
  replace he := bv_ex he
  obtain ⟨V10, e10, he⟩ := he
  refine riast (cell' := (cM G) V10) C hd (by decide) cMa1 hi9 (cMaw1 e10) (cM_ne e10) dX4_adds_39 (fun H locs hd => ?_)
  refine lv_aload_n hx hb dX4_adds_40 rfl (lv_at hl 1 rfl) ?_
  refine rgetf C hd (by decide) cM0 rfl tgX4 0 (by decide) tw701 rfl dX4_adds_41 ?_
  refine lv_iload_n hx hb dX4_adds_44 rfl (lv_at hl 0 rfl) ?_
  refine lv_iconst (v := 3) hx hb dX4_adds_45 (by decide) ?_
  replace he := b_some he
  obtain ⟨⟨r11, V11⟩, h11, he⟩ := he
  refine kSI C hd hl.1 kw_X4_54 (c_X4_spotOf l G hJ h11) ⟨Nat.le_of_ble_eq_true rfl, Nat.le_of_ble_eq_true rfl⟩ rfl (rest := [.ref _]) rfl (Nat.le_of_ble_eq_true rfl) dX4_adds_46 (fun H locs hd => ?_)
  refine lv_iconst (v := 0) hx hb dX4_adds_49 (by decide) ?_
  replace he := g_some he
  obtain ⟨hi12, he⟩ := he
  replace he := bv_ex he
  obtain ⟨V13, e13, he⟩ := he
  refine riast (cell' := (cM G) V13) C hd (by decide) cMa1 hi12 (cMaw1 e13) (cM_ne e13) dX4_adds_50 (fun H locs hd => ?_)
  refine lv_aload_n hx hb dX4_adds_51 rfl (lv_at hl 1 rfl) ?_
  refine rgetf C hd (by decide) cM0 rfl tgX4 0 (by decide) tw701 rfl dX4_adds_52 ?_
  refine lv_iload_n hx hb dX4_adds_55 rfl (lv_at hl 0 rfl) ?_
  refine lv_iconst (v := 4) hx hb dX4_adds_56 (by decide) ?_
  replace he := b_some he
  obtain ⟨⟨r14, V14⟩, h14, he⟩ := he
  refine kSI C hd hl.1 kw_X4_54 (c_X4_spotOf l G hJ h14) ⟨Nat.le_of_ble_eq_true rfl, Nat.le_of_ble_eq_true rfl⟩ rfl (rest := [.ref _]) rfl (Nat.le_of_ble_eq_true rfl) dX4_adds_57 (fun H locs hd => ?_)
  refine lv_iconst (v := 0) hx hb dX4_adds_60 (by decide) ?_
  replace he := g_some he
  obtain ⟨hi15, he⟩ := he
  replace he := bv_ex he
  obtain ⟨V16, e16, he⟩ := he
  refine riast (cell' := (cM G) V16) C hd (by decide) cMa1 hi15 (cMaw1 e16) (cM_ne e16) dX4_adds_61 (fun H locs hd => ?_)
  refine lv_aload_n hx hb dX4_adds_62 rfl (lv_at hl 1 rfl) ?_
  refine rgetf C hd (by decide) cM0 rfl tgX4 0 (by decide) tw701 rfl dX4_adds_63 ?_
  refine lv_iload_n hx hb dX4_adds_66 rfl (lv_at hl 0 rfl) ?_
  refine lv_iconst (v := 5) hx hb dX4_adds_67 (by decide) ?_
  replace he := b_some he
  obtain ⟨⟨r17, V17⟩, h17, he⟩ := he
  refine kSI C hd hl.1 kw_X4_54 (c_X4_spotOf l G hJ h17) ⟨Nat.le_of_ble_eq_true rfl, Nat.le_of_ble_eq_true rfl⟩ rfl (rest := [.ref _]) rfl (Nat.le_of_ble_eq_true rfl) dX4_adds_68 (fun H locs hd => ?_)
  refine lv_iconst (v := (-1)) hx hb dX4_adds_71 (by decide) ?_
  replace he := g_some he
  obtain ⟨hi18, he⟩ := he
  replace he := bv_ex he
  obtain ⟨V19, e19, he⟩ := he
  refine riast (cell' := (cM G) V19) C hd (by decide) cMa1 hi18 (cMaw1 e19) (cM_ne e19) dX4_adds_72 (fun H locs hd => ?_)
  refine lv_aload_n hx hb dX4_adds_73 rfl (lv_at hl 1 rfl) ?_
  refine rgetf C hd (by decide) cM0 rfl tgX4 0 (by decide) tw701 rfl dX4_adds_74 ?_
  refine lv_iload_n hx hb dX4_adds_77 rfl (lv_at hl 0 rfl) ?_
  refine lv_bipush (v := 6) hx hb dX4_adds_78 (by decide) ?_
  replace he := b_some he
  obtain ⟨⟨r20, V20⟩, h20, he⟩ := he
  refine kSI C hd hl.1 kw_X4_54 (c_X4_spotOf l G hJ h20) ⟨Nat.le_of_ble_eq_true rfl, Nat.le_of_ble_eq_true rfl⟩ rfl (rest := [.ref _]) rfl (Nat.le_of_ble_eq_true rfl) dX4_adds_80 (fun H locs hd => ?_)
  refine lv_iconst (v := (-1)) hx hb dX4_adds_83 (by decide) ?_
  replace he := g_some he
  obtain ⟨hi21, he⟩ := he
  replace he := bv_ex he
  obtain ⟨V22, e22, he⟩ := he
  refine riast (cell' := (cM G) V22) C hd (by decide) cMa1 hi21 (cMaw1 e22) (cM_ne e22) dX4_adds_84 (fun H locs hd => ?_)
  refine lv_aload_n hx hb dX4_adds_85 rfl (lv_at hl 1 rfl) ?_
  refine rgetf C hd (by decide) cM0 rfl tgX4 0 (by decide) tw701 rfl dX4_adds_86 ?_
  refine lv_iconst (v := 0) hx hb dX4_adds_89 (by decide) ?_
  refine lv_dup2_11 hx hb dX4_adds_90 rfl rfl ?_
  replace he := g_some he
  obtain ⟨hi23, he⟩ := he
  refine riald C hd (by decide) cMa1 hi23 dX4_adds_91 ?_
  refine lv_iconst (v := 1) hx hb dX4_adds_92 (by decide) ?_
  refine lv_iadd hx hb dX4_adds_93 ?_
  replace he := g_some he
  obtain ⟨hi24, he⟩ := he
  replace he := bv_ex he
  obtain ⟨V25, e25, he⟩ := he
  refine riast (cell' := (cM G) V25) C hd (by decide) cMa1 hi24 (cMaw1 e25) (cM_ne e25) dX4_adds_94 (fun H locs hd => ?_)
  refine lv_iload_n hx hb dX4_adds_95 rfl (lv_at hl 0 rfl) ?_
  exact retIe (cf := (cM G)) C hr hlk hd he dX4_adds_96
set_option maxRecDepth 100000 in
set_option maxHeartbeats 4000000 in
theorem c_X4_walker (l : Launch) (G : Gd) (hJ : Inj 11 G.2.2) {a1 : Int32} {a2 : Int32} {V V' : VV} {r : Int32} (he : f_X4_walker a1 a2 V = some (r, V')) : MI l 11 G XM yX4_walker cX4_walker 3 2 45 [.ref (G.2.2 0), .int a1, .int a2] (cM G V) (cM G V') r := by
  refine walk_of (own := RX4) (by decide) rfl hJ (xs_M G) (Nat.le_of_ble_eq_true rfl) ?_
  intro p e s m below meth c C hr hlk ls hl hd
  have hl : lv_has ls 3 [(0, .ref (G.2.2 0)), (1, .int a1), (2, .int a2)] := hl
  obtain ⟨⟨hx, hb, hml, hown, hts⟩, -⟩ := id C
  unfold f_X4_walker at he
  refine lv_iload_n hx hb dX4_walker_0 rfl (lv_at hl 1 rfl) ?_
  replace he := b_some he
  obtain ⟨⟨r1, V1⟩, h1, he⟩ := he
  refine kSZ C hd hl.1 kw_X4_76 (c_X4_isKind l G hJ h1) ⟨Nat.le_of_ble_eq_true rfl, Nat.le_of_ble_eq_true rfl⟩ rfl (rest := []) rfl (Nat.le_of_ble_eq_true rfl) dX4_walker_1 (fun H locs hz1 hd => ?_)
  refine lv_if_eq (tgt := 14) hx hb dX4_walker_4 (by decide) (fun hc2 => ?_) (fun hc2 => ?_)
  · replace he := i_t hc2 he
    refine lv_aload_n hx hb dX4_walker_14 rfl (lv_at hl 0 rfl) ?_
    refine lv_ldc hx hb hown (hts _ tw768) dX4_walker_15 ?_
    replace he := b_some he
    obtain ⟨⟨r3, V3⟩, h3, he⟩ := he
    refine kVI C hd hl.1 kw_X4_66 (by decide) cM0 rfl (c_X4_finds l G hJ h3) ⟨Nat.le_of_ble_eq_true rfl, Nat.le_of_ble_eq_true rfl⟩ rfl (rest := []) rfl (Nat.le_of_ble_eq_true rfl) dX4_walker_17 (fun H locs hd => ?_)
    exact retIe (cf := (cM G)) C hr hlk hd he dX4_walker_20
  · replace he := i_f hc2 he
    refine lv_iload_n hx hb dX4_walker_7 rfl (lv_at hl 2 rfl) ?_
    replace he := b_some he
    obtain ⟨⟨r4, V4⟩, h4, he⟩ := he
    refine kSZ C hd hl.1 kw_X4_70 (c_X4_isCell l G hJ h4) ⟨Nat.le_of_ble_eq_true rfl, Nat.le_of_ble_eq_true rfl⟩ rfl (rest := []) rfl (Nat.le_of_ble_eq_true rfl) dX4_walker_8 (fun H locs hz4 hd => ?_)
    refine lv_if_ne (tgt := 21) hx hb dX4_walker_11 (by decide) (fun hc5 => ?_) (fun hc5 => ?_)
    · replace he := i_f hc5 he
      refine lv_aload_n hx hb dX4_walker_21 rfl (lv_at hl 0 rfl) ?_
      refine rgetf C hd (by decide) cM0 rfl tgX4 0 (by decide) tw701 rfl dX4_walker_22 ?_
      refine lv_iconst (v := 0) hx hb dX4_walker_25 (by decide) ?_
      replace he := g_some he
      obtain ⟨hi6, he⟩ := he
      refine riald C hd (by decide) cMa1 hi6 dX4_walker_26 ?_
      refine lv_bipush (v := 8) hx hb dX4_walker_27 (by decide) ?_
      refine lv_icmp_ne (tgt := 41) hx hb dX4_walker_29 (by decide) (fun hc7 => ?_) (fun hc7 => ?_)
      · replace he := i_f hc7 he
        refine lv_aload_n hx hb dX4_walker_41 rfl (lv_at hl 0 rfl) ?_
        refine lv_iload_n hx hb dX4_walker_42 rfl (lv_at hl 1 rfl) ?_
        refine lv_iload_n hx hb dX4_walker_43 rfl (lv_at hl 2 rfl) ?_
        replace he := b_some he
        obtain ⟨⟨r8, V8⟩, h8, he⟩ := he
        refine kVI C hd hl.1 kw_X4_80 (by decide) cM0 rfl (c_X4_adds l G hJ h8) ⟨Nat.le_of_ble_eq_true rfl, Nat.le_of_ble_eq_true rfl⟩ rfl (rest := []) rfl (Nat.le_of_ble_eq_true rfl) dX4_walker_44 (fun H locs hd => ?_)
        exact retIe (cf := (cM G)) C hr hlk hd he dX4_walker_47
      · replace he := i_t hc7 he
        refine lv_aload_n hx hb dX4_walker_32 rfl (lv_at hl 0 rfl) ?_
        refine lv_ldc hx hb hown (hts _ tw804) dX4_walker_33 ?_
        replace he := b_some he
        obtain ⟨⟨r9, V9⟩, h9, he⟩ := he
        refine kVI C hd hl.1 kw_X4_66 (by decide) cM0 rfl (c_X4_finds l G hJ h9) ⟨Nat.le_of_ble_eq_true rfl, Nat.le_of_ble_eq_true rfl⟩ rfl (rest := []) rfl (Nat.le_of_ble_eq_true rfl) dX4_walker_35 (fun H locs hd => ?_)
        refine lv_goto (tgt := 47) hx hb dX4_walker_38 (by decide) ?_
        exact retIe (cf := (cM G)) C hr hlk hd he dX4_walker_47
    · replace he := i_t hc5 he
      refine lv_aload_n hx hb dX4_walker_14 rfl (lv_at hl 0 rfl) ?_
      refine lv_ldc hx hb hown (hts _ tw768) dX4_walker_15 ?_
      replace he := b_some he
      obtain ⟨⟨r10, V10⟩, h10, he⟩ := he
      refine kVI C hd hl.1 kw_X4_66 (by decide) cM0 rfl (c_X4_finds l G hJ h10) ⟨Nat.le_of_ble_eq_true rfl, Nat.le_of_ble_eq_true rfl⟩ rfl (rest := []) rfl (Nat.le_of_ble_eq_true rfl) dX4_walker_17 (fun H locs hd => ?_)
      exact retIe (cf := (cM G)) C hr hlk hd he dX4_walker_20
set_option maxRecDepth 100000 in
set_option maxHeartbeats 4000000 in
theorem c_X4_stepsOf (l : Launch) (G : Gd) (hJ : Inj 11 G.2.2) {a1 : Int32} {V V' : VV} {r : Int32} (he : f_X4_stepsOf a1 V = some (r, V')) : MI l 11 G XM yX4_stepsOf cX4_stepsOf 3 2 43 [.ref (G.2.2 0), .int a1] (cM G V) (cM G V') r := by
  refine walk_of (own := RX4) (by decide) rfl hJ (xs_M G) (Nat.le_of_ble_eq_true rfl) ?_
  intro p e s m below meth c C hr hlk ls hl hd
  have hl : lv_has ls 3 [(0, .ref (G.2.2 0)), (1, .int a1)] := hl
  obtain ⟨⟨hx, hb, hml, hown, hts⟩, -⟩ := id C
  unfold f_X4_stepsOf at he
  refine lv_aload_n hx hb dX4_stepsOf_0 rfl (lv_at hl 0 rfl) ?_
  refine rgetf C hd (by decide) cM0 rfl tgX4 0 (by decide) tw701 rfl dX4_stepsOf_1 ?_
  refine lv_iconst (v := 1) hx hb dX4_stepsOf_4 (by decide) ?_
  replace he := g_some he
  obtain ⟨hi1, he⟩ := he
  refine riald C hd (by decide) cMa1 hi1 dX4_stepsOf_5 ?_
  refine lv_iconst (v := 2) hx hb dX4_stepsOf_6 (by decide) ?_
  refine lv_irem hx hb dX4_stepsOf_7 (by decide) ?_
  refine lv_if_ne (tgt := 15) hx hb dX4_stepsOf_8 (by decide) (fun hc2 => ?_) (fun hc2 => ?_)
  · replace he := i_f hc2 he
    refine lv_iconst (v := 0) hx hb dX4_stepsOf_15 (by decide) ?_
    refine lv_istore_n (lv' := [(2, .int _), (0, .ref _), (1, .int _)]) hx hb dX4_stepsOf_16 rfl hl (by decide) rfl (fun ls hl => ?_)
    refine lv_aload_n hx hb dX4_stepsOf_17 rfl (lv_at hl 1 rfl) ?_
    refine lv_iload_n hx hb dX4_stepsOf_18 rfl (lv_at hl 2 rfl) ?_
    refine lv_iconst (v := 0) hx hb dX4_stepsOf_19 (by decide) ?_
    replace he := b_some he
    obtain ⟨⟨r3, V3⟩, h3, he⟩ := he
    refine kVI C hd hl.1 kw_X4_58 (by decide) cM0 rfl (c_X4_its l G hJ h3) ⟨Nat.le_of_ble_eq_true rfl, Nat.le_of_ble_eq_true rfl⟩ rfl (rest := []) rfl (Nat.le_of_ble_eq_true rfl) dX4_stepsOf_20 (fun H locs hd => ?_)
    replace he := ite_cases he
    rcases he with ⟨hc4, he⟩ | ⟨hc4, he⟩
    · refine rtabIn (k := 2) (off := 29) (tgt := 52) hx hb dX4_stepsOf_23 hc4 (by decide) (by decide) rfl (by decide) ?_
      refine lv_iload_n hx hb dX4_stepsOf_52 rfl (lv_at hl 0 rfl) ?_
      exact retIe (cf := (cM G)) C hr hlk hd he dX4_stepsOf_53
    · replace he := ite_cases he
      rcases he with ⟨hc5, he⟩ | ⟨hc5, he⟩
      · refine rtabIn (k := 3) (off := 31) (tgt := 54) hx hb dX4_stepsOf_23 hc5 (by decide) (by decide) rfl (by decide) ?_
        refine lv_iconst (v := 0) hx hb dX4_stepsOf_54 (by decide) ?_
        exact retIe (cf := (cM G)) C hr hlk hd he dX4_stepsOf_55
      · replace he := ite_cases he
        rcases he with ⟨hc6, he⟩ | ⟨hc6, he⟩
        · refine rtabIn (k := 4) (off := 33) (tgt := 56) hx hb dX4_stepsOf_23 hc6 (by decide) (by decide) rfl (by decide) ?_
          refine lv_iconst (v := 2) hx hb dX4_stepsOf_56 (by decide) ?_
          exact retIe (cf := (cM G)) C hr hlk hd he dX4_stepsOf_57
        · replace he := ite_cases he
          rcases he with ⟨hc7, he⟩ | ⟨hc7, he⟩
          · refine rtabIn (k := 5) (off := 35) (tgt := 58) hx hb dX4_stepsOf_23 hc7 (by decide) (by decide) rfl (by decide) ?_
            refine lv_aload_n hx hb dX4_stepsOf_58 rfl (lv_at hl 1 rfl) ?_
            refine rgetf C hd (by decide) cM0 rfl tgX4 0 (by decide) tw701 rfl dX4_stepsOf_59 ?_
            refine lv_iconst (v := 1) hx hb dX4_stepsOf_62 (by decide) ?_
            replace he := g_some he
            obtain ⟨hi8, he⟩ := he
            refine riald C hd (by decide) cMa1 hi8 dX4_stepsOf_63 ?_
            refine lv_iconst (v := 3) hx hb dX4_stepsOf_64 (by decide) ?_
            refine lv_irem hx hb dX4_stepsOf_65 (by decide) ?_
            refine lv_if_ne (tgt := 75) hx hb dX4_stepsOf_66 (by decide) (fun hc9 => ?_) (fun hc9 => ?_)
            · replace he := i_f hc9 he
              refine lv_iload_n hx hb dX4_stepsOf_75 rfl (lv_at hl 0 rfl) ?_
              exact retIe (cf := (cM G)) C hr hlk hd he dX4_stepsOf_76
            · replace he := i_t hc9 he
              refine lv_iload_n hx hb dX4_stepsOf_69 rfl (lv_at hl 0 rfl) ?_
              refine lv_iconst (v := 1) hx hb dX4_stepsOf_70 (by decide) ?_
              refine lv_iadd hx hb dX4_stepsOf_71 ?_
              refine lv_goto (tgt := 76) hx hb dX4_stepsOf_72 (by decide) ?_
              exact retIe (cf := (cM G)) C hr hlk hd he dX4_stepsOf_76
          · refine lv_tableOut (tgt := 77) hx hb dX4_stepsOf_23 (tbl_out (fun k k1 k2 => by rcases (show k = 2 ∨ k = 3 ∨ k = 4 ∨ k = 5 by omega) with rfl | rfl | rfl | rfl <;> first | exact hc4 | exact hc5 | exact hc6 | exact hc7)) (by decide) ?_
            refine lv_iconst (v := 1) hx hb dX4_stepsOf_77 (by decide) ?_
            exact retIe (cf := (cM G)) C hr hlk hd he dX4_stepsOf_78
  · replace he := i_t hc2 he
    refine lv_iconst (v := 1) hx hb dX4_stepsOf_11 (by decide) ?_
    refine lv_goto (tgt := 16) hx hb dX4_stepsOf_12 (by decide) ?_
    refine lv_istore_n (lv' := [(2, .int _), (0, .ref _), (1, .int _)]) hx hb dX4_stepsOf_16 rfl hl (by decide) rfl (fun ls hl => ?_)
    refine lv_aload_n hx hb dX4_stepsOf_17 rfl (lv_at hl 1 rfl) ?_
    refine lv_iload_n hx hb dX4_stepsOf_18 rfl (lv_at hl 2 rfl) ?_
    refine lv_iconst (v := 0) hx hb dX4_stepsOf_19 (by decide) ?_
    replace he := b_some he
    obtain ⟨⟨r10, V10⟩, h10, he⟩ := he
    refine kVI C hd hl.1 kw_X4_58 (by decide) cM0 rfl (c_X4_its l G hJ h10) ⟨Nat.le_of_ble_eq_true rfl, Nat.le_of_ble_eq_true rfl⟩ rfl (rest := []) rfl (Nat.le_of_ble_eq_true rfl) dX4_stepsOf_20 (fun H locs hd => ?_)
    replace he := ite_cases he
    rcases he with ⟨hc11, he⟩ | ⟨hc11, he⟩
    · refine rtabIn (k := 2) (off := 29) (tgt := 52) hx hb dX4_stepsOf_23 hc11 (by decide) (by decide) rfl (by decide) ?_
      refine lv_iload_n hx hb dX4_stepsOf_52 rfl (lv_at hl 0 rfl) ?_
      exact retIe (cf := (cM G)) C hr hlk hd he dX4_stepsOf_53
    · replace he := ite_cases he
      rcases he with ⟨hc12, he⟩ | ⟨hc12, he⟩
      · refine rtabIn (k := 3) (off := 31) (tgt := 54) hx hb dX4_stepsOf_23 hc12 (by decide) (by decide) rfl (by decide) ?_
        refine lv_iconst (v := 0) hx hb dX4_stepsOf_54 (by decide) ?_
        exact retIe (cf := (cM G)) C hr hlk hd he dX4_stepsOf_55
      · replace he := ite_cases he
        rcases he with ⟨hc13, he⟩ | ⟨hc13, he⟩
        · refine rtabIn (k := 4) (off := 33) (tgt := 56) hx hb dX4_stepsOf_23 hc13 (by decide) (by decide) rfl (by decide) ?_
          refine lv_iconst (v := 2) hx hb dX4_stepsOf_56 (by decide) ?_
          exact retIe (cf := (cM G)) C hr hlk hd he dX4_stepsOf_57
        · replace he := ite_cases he
          rcases he with ⟨hc14, he⟩ | ⟨hc14, he⟩
          · refine rtabIn (k := 5) (off := 35) (tgt := 58) hx hb dX4_stepsOf_23 hc14 (by decide) (by decide) rfl (by decide) ?_
            refine lv_aload_n hx hb dX4_stepsOf_58 rfl (lv_at hl 1 rfl) ?_
            refine rgetf C hd (by decide) cM0 rfl tgX4 0 (by decide) tw701 rfl dX4_stepsOf_59 ?_
            refine lv_iconst (v := 1) hx hb dX4_stepsOf_62 (by decide) ?_
            replace he := g_some he
            obtain ⟨hi15, he⟩ := he
            refine riald C hd (by decide) cMa1 hi15 dX4_stepsOf_63 ?_
            refine lv_iconst (v := 3) hx hb dX4_stepsOf_64 (by decide) ?_
            refine lv_irem hx hb dX4_stepsOf_65 (by decide) ?_
            refine lv_if_ne (tgt := 75) hx hb dX4_stepsOf_66 (by decide) (fun hc16 => ?_) (fun hc16 => ?_)
            · replace he := i_f hc16 he
              refine lv_iload_n hx hb dX4_stepsOf_75 rfl (lv_at hl 0 rfl) ?_
              exact retIe (cf := (cM G)) C hr hlk hd he dX4_stepsOf_76
            · replace he := i_t hc16 he
              refine lv_iload_n hx hb dX4_stepsOf_69 rfl (lv_at hl 0 rfl) ?_
              refine lv_iconst (v := 1) hx hb dX4_stepsOf_70 (by decide) ?_
              refine lv_iadd hx hb dX4_stepsOf_71 ?_
              refine lv_goto (tgt := 76) hx hb dX4_stepsOf_72 (by decide) ?_
              exact retIe (cf := (cM G)) C hr hlk hd he dX4_stepsOf_76
          · refine lv_tableOut (tgt := 77) hx hb dX4_stepsOf_23 (tbl_out (fun k k1 k2 => by rcases (show k = 2 ∨ k = 3 ∨ k = 4 ∨ k = 5 by omega) with rfl | rfl | rfl | rfl <;> first | exact hc11 | exact hc12 | exact hc13 | exact hc14)) (by decide) ?_
            refine lv_iconst (v := 1) hx hb dX4_stepsOf_77 (by decide) ?_
            exact retIe (cf := (cM G)) C hr hlk hd he dX4_stepsOf_78
set_option maxRecDepth 100000 in
set_option maxHeartbeats 4000000 in
theorem c_X4_turnsOf (l : Launch) (G : Gd) (hJ : Inj 11 G.2.2) {a1 : Int32} {V V' : VV} {r : Int32} (he : f_X4_turnsOf a1 V = some (r, V')) : MI l 11 G XM yX4_turnsOf cX4_turnsOf 2 2 43 [.ref (G.2.2 0), .int a1] (cM G V) (cM G V') r := by
  refine walk_of (own := RX4) (by decide) rfl hJ (xs_M G) (Nat.le_of_ble_eq_true rfl) ?_
  intro p e s m below meth c C hr hlk ls hl hd
  have hl : lv_has ls 2 [(0, .ref (G.2.2 0)), (1, .int a1)] := hl
  obtain ⟨⟨hx, hb, hml, hown, hts⟩, -⟩ := id C
  unfold f_X4_turnsOf at he
  refine lv_aload_n hx hb dX4_turnsOf_0 rfl (lv_at hl 0 rfl) ?_
  refine lv_iload_n hx hb dX4_turnsOf_1 rfl (lv_at hl 1 rfl) ?_
  refine lv_iconst (v := 0) hx hb dX4_turnsOf_2 (by decide) ?_
  replace he := b_some he
  obtain ⟨⟨r1, V1⟩, h1, he⟩ := he
  refine kVI C hd hl.1 kw_X4_58 (by decide) cM0 rfl (c_X4_its l G hJ h1) ⟨Nat.le_of_ble_eq_true rfl, Nat.le_of_ble_eq_true rfl⟩ rfl (rest := []) rfl (Nat.le_of_ble_eq_true rfl) dX4_turnsOf_3 (fun H locs hd => ?_)
  replace he := ite_cases he
  rcases he with ⟨hc2, he⟩ | ⟨hc2, he⟩
  · refine rtabIn (k := 1) (off := 34) (tgt := 40) hx hb dX4_turnsOf_6 hc2 (by decide) (by decide) rfl (by decide) ?_
    refine lv_aload_n hx hb dX4_turnsOf_40 rfl (lv_at hl 0 rfl) ?_
    refine rgetf C hd (by decide) cM0 rfl tgX4 0 (by decide) tw701 rfl dX4_turnsOf_41 ?_
    refine lv_iconst (v := 1) hx hb dX4_turnsOf_44 (by decide) ?_
    replace he := g_some he
    obtain ⟨hi3, he⟩ := he
    refine riald C hd (by decide) cMa1 hi3 dX4_turnsOf_45 ?_
    refine lv_iconst (v := 3) hx hb dX4_turnsOf_46 (by decide) ?_
    refine lv_irem hx hb dX4_turnsOf_47 (by decide) ?_
    refine lv_if_ne (tgt := 55) hx hb dX4_turnsOf_48 (by decide) (fun hc4 => ?_) (fun hc4 => ?_)
    · replace he := i_f hc4 he
      refine lv_iconst (v := 0) hx hb dX4_turnsOf_55 (by decide) ?_
      exact retIe (cf := (cM G)) C hr hlk hd he dX4_turnsOf_56
    · replace he := i_t hc4 he
      refine lv_iconst (v := 1) hx hb dX4_turnsOf_51 (by decide) ?_
      refine lv_goto (tgt := 56) hx hb dX4_turnsOf_52 (by decide) ?_
      exact retIe (cf := (cM G)) C hr hlk hd he dX4_turnsOf_56
  · replace he := ite_cases he
    rcases he with ⟨hc5, he⟩ | ⟨hc5, he⟩
    · refine rtabIn (k := 2) (off := 71) (tgt := 77) hx hb dX4_turnsOf_6 hc5 (by decide) (by decide) rfl (by decide) ?_
      refine lv_iconst (v := 0) hx hb dX4_turnsOf_77 (by decide) ?_
      exact retIe (cf := (cM G)) C hr hlk hd he dX4_turnsOf_78
    · replace he := ite_cases he
      rcases he with ⟨hc6, he⟩ | ⟨hc6, he⟩
      · refine rtabIn (k := 3) (off := 51) (tgt := 57) hx hb dX4_turnsOf_6 hc6 (by decide) (by decide) rfl (by decide) ?_
        refine lv_iconst (v := 1) hx hb dX4_turnsOf_57 (by decide) ?_
        exact retIe (cf := (cM G)) C hr hlk hd he dX4_turnsOf_58
      · replace he := ite_cases he
        rcases he with ⟨hc7, he⟩ | ⟨hc7, he⟩
        · refine rtabIn (k := 4) (off := 34) (tgt := 40) hx hb dX4_turnsOf_6 hc7 (by decide) (by decide) rfl (by decide) ?_
          refine lv_aload_n hx hb dX4_turnsOf_40 rfl (lv_at hl 0 rfl) ?_
          refine rgetf C hd (by decide) cM0 rfl tgX4 0 (by decide) tw701 rfl dX4_turnsOf_41 ?_
          refine lv_iconst (v := 1) hx hb dX4_turnsOf_44 (by decide) ?_
          replace he := g_some he
          obtain ⟨hi8, he⟩ := he
          refine riald C hd (by decide) cMa1 hi8 dX4_turnsOf_45 ?_
          refine lv_iconst (v := 3) hx hb dX4_turnsOf_46 (by decide) ?_
          refine lv_irem hx hb dX4_turnsOf_47 (by decide) ?_
          refine lv_if_ne (tgt := 55) hx hb dX4_turnsOf_48 (by decide) (fun hc9 => ?_) (fun hc9 => ?_)
          · replace he := i_f hc9 he
            refine lv_iconst (v := 0) hx hb dX4_turnsOf_55 (by decide) ?_
            exact retIe (cf := (cM G)) C hr hlk hd he dX4_turnsOf_56
          · replace he := i_t hc9 he
            refine lv_iconst (v := 1) hx hb dX4_turnsOf_51 (by decide) ?_
            refine lv_goto (tgt := 56) hx hb dX4_turnsOf_52 (by decide) ?_
            exact retIe (cf := (cM G)) C hr hlk hd he dX4_turnsOf_56
        · replace he := ite_cases he
          rcases he with ⟨hc10, he⟩ | ⟨hc10, he⟩
          · refine rtabIn (k := 5) (off := 53) (tgt := 59) hx hb dX4_turnsOf_6 hc10 (by decide) (by decide) rfl (by decide) ?_
            refine lv_aload_n hx hb dX4_turnsOf_59 rfl (lv_at hl 0 rfl) ?_
            refine rgetf C hd (by decide) cM0 rfl tgX4 0 (by decide) tw701 rfl dX4_turnsOf_60 ?_
            refine lv_iconst (v := 1) hx hb dX4_turnsOf_63 (by decide) ?_
            replace he := g_some he
            obtain ⟨hi11, he⟩ := he
            refine riald C hd (by decide) cMa1 hi11 dX4_turnsOf_64 ?_
            refine lv_iconst (v := 4) hx hb dX4_turnsOf_65 (by decide) ?_
            refine lv_irem hx hb dX4_turnsOf_66 (by decide) ?_
            refine lv_iconst (v := 1) hx hb dX4_turnsOf_67 (by decide) ?_
            refine lv_icmp_ne (tgt := 75) hx hb dX4_turnsOf_68 (by decide) (fun hc12 => ?_) (fun hc12 => ?_)
            · replace he := i_f hc12 he
              refine lv_iconst (v := 0) hx hb dX4_turnsOf_75 (by decide) ?_
              exact retIe (cf := (cM G)) C hr hlk hd he dX4_turnsOf_76
            · replace he := i_t hc12 he
              refine lv_iconst (v := 2) hx hb dX4_turnsOf_71 (by decide) ?_
              refine lv_goto (tgt := 76) hx hb dX4_turnsOf_72 (by decide) ?_
              exact retIe (cf := (cM G)) C hr hlk hd he dX4_turnsOf_76
          · refine lv_tableOut (tgt := 77) hx hb dX4_turnsOf_6 (tbl_out (fun k k1 k2 => by rcases (show k = 1 ∨ k = 2 ∨ k = 3 ∨ k = 4 ∨ k = 5 by omega) with rfl | rfl | rfl | rfl | rfl <;> first | exact hc2 | exact hc5 | exact hc6 | exact hc7 | exact hc10)) (by decide) ?_
            refine lv_iconst (v := 0) hx hb dX4_turnsOf_77 (by decide) ?_
            exact retIe (cf := (cM G)) C hr hlk hd he dX4_turnsOf_78
set_option maxRecDepth 100000 in
set_option maxHeartbeats 4000000 in
theorem c_X4_of (l : Launch) (G : Gd) (hJ : Inj 11 G.2.2) {a1 : Int32} {a2 : Int32} {V V' : VV} {r : Int32} (he : f_X4_of a1 a2 V = some (r, V')) : MI l 11 G XM yX4_of cX4_of 3 3 65 [.ref (G.2.2 0), .int a1, .int a2] (cM G V) (cM G V') r := by
  refine walk_of (own := RX4) (by decide) rfl hJ (xs_M G) (Nat.le_of_ble_eq_true rfl) ?_
  intro p e s m below meth c C hr hlk ls hl hd
  have hl : lv_has ls 3 [(0, .ref (G.2.2 0)), (1, .int a1), (2, .int a2)] := hl
  obtain ⟨⟨hx, hb, hml, hown, hts⟩, -⟩ := id C
  unfold f_X4_of at he
  refine lv_aload_n hx hb dX4_of_0 rfl (lv_at hl 0 rfl) ?_
  refine lv_iload_n hx hb dX4_of_1 rfl (lv_at hl 1 rfl) ?_
  replace he := b_some he
  obtain ⟨⟨r1, V1⟩, h1, he⟩ := he
  refine kVZ C hd hl.1 kw_X4_48 (by decide) cM0 rfl (c_X4_isWalker l G hJ h1) ⟨Nat.le_of_ble_eq_true rfl, Nat.le_of_ble_eq_true rfl⟩ rfl (rest := []) rfl (Nat.le_of_ble_eq_true rfl) dX4_of_2 (fun H locs hz1 hd => ?_)
  refine lv_if_eq (tgt := 20) hx hb dX4_of_5 (by decide) (fun hc2 => ?_) (fun hc2 => ?_)
  · replace he := i_t hc2 he
    refine lv_aload_n hx hb dX4_of_20 rfl (lv_at hl 0 rfl) ?_
    refine lv_ldc hx hb hown (hts _ tw768) dX4_of_21 ?_
    replace he := b_some he
    obtain ⟨⟨r3, V3⟩, h3, he⟩ := he
    refine kVI C hd hl.1 kw_X4_66 (by decide) cM0 rfl (c_X4_finds l G hJ h3) ⟨Nat.le_of_ble_eq_true rfl, Nat.le_of_ble_eq_true rfl⟩ rfl (rest := []) rfl (Nat.le_of_ble_eq_true rfl) dX4_of_23 (fun H locs hd => ?_)
    exact retIe (cf := (cM G)) C hr hlk hd he dX4_of_26
  · replace he := i_f hc2 he
    refine lv_iload_n hx hb dX4_of_8 rfl (lv_at hl 2 rfl) ?_
    refine lv_i2l hx hb dX4_of_9 rfl ?_
    refine lv_lconst (v := 0) hx hb dX4_of_10 (by decide) ?_
    refine lv_ldc2 hx hb hown (hts _ tw817) dX4_of_11 ?_
    replace he := b_some he
    obtain ⟨⟨r4, V4⟩, h4, he⟩ := he
    refine kSZ C hd hl.1 kw_X4_44 (c_X4_in l G hJ h4) ⟨Nat.le_of_ble_eq_true rfl, Nat.le_of_ble_eq_true rfl⟩ rfl (rest := []) rfl (Nat.le_of_ble_eq_true rfl) dX4_of_14 (fun H locs hz4 hd => ?_)
    refine lv_if_ne (tgt := 27) hx hb dX4_of_17 (by decide) (fun hc5 => ?_) (fun hc5 => ?_)
    · replace he := i_f hc5 he
      refine lv_iload_n hx hb dX4_of_27 rfl (lv_at hl 2 rfl) ?_
      refine lv_bipush (v := 6) hx hb dX4_of_28 (by decide) ?_
      refine lv_icmp_gt (tgt := 42) hx hb dX4_of_30 (by decide) (fun hc6 => ?_) (fun hc6 => ?_)
      · replace he := i_t hc6 he
        refine lv_iload_n hx hb dX4_of_42 rfl (lv_at hl 2 rfl) ?_
        refine lv_bipush (v := 7) hx hb dX4_of_43 (by decide) ?_
        refine lv_icmp_ne (tgt := 56) hx hb dX4_of_45 (by decide) (fun hc7 => ?_) (fun hc7 => ?_)
        · replace he := i_f hc7 he
          refine lv_aload_n hx hb dX4_of_56 rfl (lv_at hl 0 rfl) ?_
          refine lv_iload_n hx hb dX4_of_57 rfl (lv_at hl 1 rfl) ?_
          replace he := b_some he
          obtain ⟨⟨r8, V8⟩, h8, he⟩ := he
          refine kVI C hd hl.1 kw_X4_88 (by decide) cM0 rfl (c_X4_turnsOf l G hJ h8) ⟨Nat.le_of_ble_eq_true rfl, Nat.le_of_ble_eq_true rfl⟩ rfl (rest := []) rfl (Nat.le_of_ble_eq_true rfl) dX4_of_58 (fun H locs hd => ?_)
          exact retIe (cf := (cM G)) C hr hlk hd he dX4_of_61
        · replace he := i_t hc7 he
          refine lv_aload_n hx hb dX4_of_48 rfl (lv_at hl 0 rfl) ?_
          refine lv_iload_n hx hb dX4_of_49 rfl (lv_at hl 1 rfl) ?_
          replace he := b_some he
          obtain ⟨⟨r9, V9⟩, h9, he⟩ := he
          refine kVI C hd hl.1 kw_X4_85 (by decide) cM0 rfl (c_X4_stepsOf l G hJ h9) ⟨Nat.le_of_ble_eq_true rfl, Nat.le_of_ble_eq_true rfl⟩ rfl (rest := []) rfl (Nat.le_of_ble_eq_true rfl) dX4_of_50 (fun H locs hd => ?_)
          refine lv_goto (tgt := 61) hx hb dX4_of_53 (by decide) ?_
          exact retIe (cf := (cM G)) C hr hlk hd he dX4_of_61
      · replace he := i_f hc6 he
        refine lv_aload_n hx hb dX4_of_33 rfl (lv_at hl 0 rfl) ?_
        refine lv_iload_n hx hb dX4_of_34 rfl (lv_at hl 1 rfl) ?_
        refine lv_iload_n hx hb dX4_of_35 rfl (lv_at hl 2 rfl) ?_
        replace he := b_some he
        obtain ⟨⟨r10, V10⟩, h10, he⟩ := he
        refine kVI C hd hl.1 kw_X4_58 (by decide) cM0 rfl (c_X4_its l G hJ h10) ⟨Nat.le_of_ble_eq_true rfl, Nat.le_of_ble_eq_true rfl⟩ rfl (rest := []) rfl (Nat.le_of_ble_eq_true rfl) dX4_of_36 (fun H locs hd => ?_)
        refine lv_goto (tgt := 61) hx hb dX4_of_39 (by decide) ?_
        exact retIe (cf := (cM G)) C hr hlk hd he dX4_of_61
    · replace he := i_t hc5 he
      refine lv_aload_n hx hb dX4_of_20 rfl (lv_at hl 0 rfl) ?_
      refine lv_ldc hx hb hown (hts _ tw768) dX4_of_21 ?_
      replace he := b_some he
      obtain ⟨⟨r11, V11⟩, h11, he⟩ := he
      refine kVI C hd hl.1 kw_X4_66 (by decide) cM0 rfl (c_X4_finds l G hJ h11) ⟨Nat.le_of_ble_eq_true rfl, Nat.le_of_ble_eq_true rfl⟩ rfl (rest := []) rfl (Nat.le_of_ble_eq_true rfl) dX4_of_23 (fun H locs hd => ?_)
      exact retIe (cf := (cM G)) C hr hlk hd he dX4_of_26
set_option maxRecDepth 100000 in
set_option maxHeartbeats 4000000 in
theorem c_X4_isPart (l : Launch) (G : Gd) (hJ : Inj 11 G.2.2) {a1 : Int32} {a2 : Int32} {V V' : VV} {r : Int32} (he : f_X4_isPart a1 a2 V = some (r, V')) : MZ l 11 G XM yX4_isPart cX4_isPart 2 2 45 [.int a1, .int a2] (cM G V) (cM G V') r := by
  refine walk_of (own := RX4) (by decide) rfl hJ (xs_M G) (Nat.le_of_ble_eq_true rfl) ?_
  intro p e s m below meth c C hr hlk ls hl hd
  have hl : lv_has ls 2 [(0, .int a1), (1, .int a2)] := hl
  obtain ⟨⟨hx, hb, hml, hown, hts⟩, -⟩ := id C
  unfold f_X4_isPart at he
  refine lv_iload_n hx hb dX4_isPart_0 rfl (lv_at hl 0 rfl) ?_
  replace he := ite_cases he
  rcases he with ⟨hc1, he⟩ | ⟨hc1, he⟩
  · refine rtabIn (k := 1) (off := 27) (tgt := 28) hx hb dX4_isPart_1 hc1 (by decide) (by decide) rfl (by decide) ?_
    refine lv_iload_n hx hb dX4_isPart_28 rfl (lv_at hl 1 rfl) ?_
    replace he := b_some he
    obtain ⟨⟨r2, V2⟩, h2, he⟩ := he
    refine kSZ C hd hl.1 kw_X4_70 (c_X4_isCell l G hJ h2) ⟨Nat.le_of_ble_eq_true rfl, Nat.le_of_ble_eq_true rfl⟩ rfl (rest := []) rfl (Nat.le_of_ble_eq_true rfl) dX4_isPart_29 (fun H locs hz2 hd => ?_)
    exact retZe (cf := (cM G)) C hr hlk hd hz2 he dX4_isPart_32
  · replace he := ite_cases he
    rcases he with ⟨hc3, he⟩ | ⟨hc3, he⟩
    · refine rtabIn (k := 2) (off := 27) (tgt := 28) hx hb dX4_isPart_1 hc3 (by decide) (by decide) rfl (by decide) ?_
      refine lv_iload_n hx hb dX4_isPart_28 rfl (lv_at hl 1 rfl) ?_
      replace he := b_some he
      obtain ⟨⟨r4, V4⟩, h4, he⟩ := he
      refine kSZ C hd hl.1 kw_X4_70 (c_X4_isCell l G hJ h4) ⟨Nat.le_of_ble_eq_true rfl, Nat.le_of_ble_eq_true rfl⟩ rfl (rest := []) rfl (Nat.le_of_ble_eq_true rfl) dX4_isPart_29 (fun H locs hz4 hd => ?_)
      exact retZe (cf := (cM G)) C hr hlk hd hz4 he dX4_isPart_32
    · replace he := ite_cases he
      rcases he with ⟨hc5, he⟩ | ⟨hc5, he⟩
      · refine rtabIn (k := 3) (off := 32) (tgt := 33) hx hb dX4_isPart_1 hc5 (by decide) (by decide) rfl (by decide) ?_
        refine lv_iload_n hx hb dX4_isPart_33 rfl (lv_at hl 1 rfl) ?_
        refine lv_i2l hx hb dX4_isPart_34 rfl ?_
        refine lv_lconst (v := 0) hx hb dX4_isPart_35 (by decide) ?_
        refine lv_ldc2 hx hb hown (hts _ tw833) dX4_isPart_36 ?_
        replace he := b_some he
        obtain ⟨⟨r6, V6⟩, h6, he⟩ := he
        refine kSZ C hd hl.1 kw_X4_44 (c_X4_in l G hJ h6) ⟨Nat.le_of_ble_eq_true rfl, Nat.le_of_ble_eq_true rfl⟩ rfl (rest := []) rfl (Nat.le_of_ble_eq_true rfl) dX4_isPart_39 (fun H locs hz6 hd => ?_)
        exact retZe (cf := (cM G)) C hr hlk hd hz6 he dX4_isPart_42
      · refine lv_tableOut (tgt := 43) hx hb dX4_isPart_1 (tbl_out (fun k k1 k2 => by rcases (show k = 1 ∨ k = 2 ∨ k = 3 by omega) with rfl | rfl | rfl <;> first | exact hc1 | exact hc3 | exact hc5)) (by decide) ?_
        refine lv_iload_n hx hb dX4_isPart_43 rfl (lv_at hl 0 rfl) ?_
        refine lv_iconst (v := 4) hx hb dX4_isPart_44 (by decide) ?_
        refine lv_icmp_ne (tgt := 64) hx hb dX4_isPart_45 (by decide) (fun hc7 => ?_) (fun hc7 => ?_)
        · replace he := i_f hc7 he
          refine lv_iconst (v := 0) hx hb dX4_isPart_64 (by decide) ?_
          exact retZe (cf := (cM G)) C hr hlk hd rfl he dX4_isPart_65
        · replace he := i_t hc7 he
          refine lv_iload_n hx hb dX4_isPart_48 rfl (lv_at hl 1 rfl) ?_
          refine lv_i2l hx hb dX4_isPart_49 rfl ?_
          refine lv_lconst (v := 0) hx hb dX4_isPart_50 (by decide) ?_
          refine lv_ldc2 hx hb hown (hts _ tw834) dX4_isPart_51 ?_
          replace he := b_some he
          obtain ⟨⟨r8, V8⟩, h8, he⟩ := he
          refine kSZ C hd hl.1 kw_X4_44 (c_X4_in l G hJ h8) ⟨Nat.le_of_ble_eq_true rfl, Nat.le_of_ble_eq_true rfl⟩ rfl (rest := []) rfl (Nat.le_of_ble_eq_true rfl) dX4_isPart_54 (fun H locs hz8 hd => ?_)
          refine lv_if_eq (tgt := 64) hx hb dX4_isPart_57 (by decide) (fun hc9 => ?_) (fun hc9 => ?_)
          · replace he := i_t hc9 he
            refine lv_iconst (v := 0) hx hb dX4_isPart_64 (by decide) ?_
            exact retZe (cf := (cM G)) C hr hlk hd rfl he dX4_isPart_65
          · replace he := i_f hc9 he
            refine lv_iconst (v := 1) hx hb dX4_isPart_60 (by decide) ?_
            refine lv_goto (tgt := 65) hx hb dX4_isPart_61 (by decide) ?_
            exact retZe (cf := (cM G)) C hr hlk hd rfl he dX4_isPart_65
