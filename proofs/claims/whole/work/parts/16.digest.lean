set_option maxRecDepth 100000 in
theorem w_X4_digest_27 {X : XT} {E : EvT} {Z : Nat → Prop} {Q : State → Prop} {A : Nat → Nat} (C : Cx X (.code yX4_digest cX4_digest 6 (some .long)) cX4_digest 6 RX4 rm_X4_digest.frames rm_X4_digest.locals) (K : Ck X E Z) {r0 : Int64} {V0 : Nat → Nat → Int32} {L0 : Nat → Int64} (hret : RLo X 6 cX4_digest (IF X E Z (cw E A)) Q r0 (V0, L0)) {k18 : (Nat → Nat → Int32) → (Nat → Int64) → Int64 → Int32 → Option (Int64 × (Nat → Nat → Int32) × (Nat → Int64))} {x3 : Int32} (hk18 : ∀ (V : Nat → Nat → Int32) (L : Nat → Int64) (y1 : Int64) (x4 : Int32), k18 V L y1 x4 = some (r0, V0, L0) → Wm X 6 (IF X E Z (cw E A)) Q 18 [(0, .ref (A 0)), (1, .long y1), (3, .int x3), (4, .int x4)] [] (V, L)) (x4 : Int32) : ∀ (n : Nat) (V : Nat → Nat → Int32) (L : Nat → Int64) (y1 : Int64) (x5 : Int32), f_X4_digest_27 k18 x3 x4 n V L y1 x5 = some (r0, V0, L0) → Wm X 6 (IF X E Z (cw E A)) Q 27 [(0, .ref (A 0)), (1, .long y1), (3, .int x3), (4, .int x4), (5, .int x5)] [] (V, L) := by
  intro n
  induction n with
  | zero =>
    intro V L y1 x5 hf
    exact none_e hf
  | succ n ih =>
    intro V L y1 x5 hf
    rw [f_X4_digest_27] at hf
    refine r_iload C dX4_digest_27 4 rfl ?_
    refine r_iconst C dX4_digest_29 ki_5 ?_
    refine r_icmp_gt C (tgt := 55) dX4_digest_30 rfl hf (fun hf => ?_) (fun hf => ?_)
    · refine r_ldc2 C q_kl_RX4_188 dX4_digest_55 ?_
      refine r_lload_n C dX4_digest_58 1 rfl rfl ?_
      refine r_lmul C dX4_digest_59 ?_
      refine r_aload_n C dX4_digest_60 0 rfl rfl ?_
      refine r_iload C dX4_digest_61 3 rfl ?_
      refine r_bipush C dX4_digest_63 kb_7 ?_
      refine bd3_e hf (fun r_1 V_2 L_3 hq hf => ?_)
      refine f_callI C K cal_RX4_193 ⟨rfl, rfl, Nat.le_of_ble_eq_true rfl, Nat.le_of_ble_eq_true rfl⟩ (t_X4_begin _ x4 (7 : Int32) hq) (cw_o0 E A _ _) rfl (cw_fst _ _ _ _ _ _) rfl (rest := [.long ((31 : Int64) * y1)]) rfl (Nat.le_of_ble_eq_true rfl) dX4_digest_65 ?_
      refine r_i2l C dX4_digest_68 ?_
      refine r_ladd C dX4_digest_69 ?_
      refine b_long hf (fun t_4 hf => ?_)
      refine r_lstore_n C dX4_digest_70 rfl (Nat.le_of_ble_eq_true rfl) (lv2 := [(1, .long t_4), (0, .ref (A 0)), (3, .int x3), (4, .int x4), (5, .int x5)]) rfl ?_
      refine r_iinc C dX4_digest_71 3 rfl (kn_1 _) (Nat.le_of_ble_eq_true rfl) (lv2 := [(4, .int (x4 + 1)), (1, .long t_4), (0, .ref (A 0)), (3, .int x3), (5, .int x5)]) rfl ?_
      refine r_goto C (tgt := 18) dX4_digest_74 rfl ?_
      exact r_sub [2, 1, 3, 0] rfl (hk18 V_2 L_3 t_4 (x4 + 1) hf)
    · refine r_ldc2 C q_kl_RX4_188 dX4_digest_33 ?_
      refine r_lload_n C dX4_digest_36 1 rfl rfl ?_
      refine r_lmul C dX4_digest_37 ?_
      refine r_aload_n C dX4_digest_38 0 rfl rfl ?_
      refine r_iload C dX4_digest_39 3 rfl ?_
      refine r_iload C dX4_digest_41 4 rfl ?_
      refine bd3_e hf (fun r_5 V_6 L_7 hq hf => ?_)
      refine f_callI C K cal_RX4_190 ⟨rfl, rfl, Nat.le_of_ble_eq_true rfl, Nat.le_of_ble_eq_true rfl⟩ (t_X4_child _ x4 x5 hq) (cw_o0 E A _ _) rfl (cw_fst _ _ _ _ _ _) rfl (rest := [.long ((31 : Int64) * y1)]) rfl (Nat.le_of_ble_eq_true rfl) dX4_digest_43 ?_
      refine r_i2l C dX4_digest_46 ?_
      refine r_ladd C dX4_digest_47 ?_
      refine b_long hf (fun t_8 hf => ?_)
      refine r_lstore_n C dX4_digest_48 rfl (Nat.le_of_ble_eq_true rfl) (lv2 := [(1, .long t_8), (0, .ref (A 0)), (3, .int x3), (4, .int x4), (5, .int x5)]) rfl ?_
      refine r_iinc C dX4_digest_49 4 rfl (kn_1 _) (Nat.le_of_ble_eq_true rfl) (lv2 := [(5, .int (x5 + 1)), (1, .long t_8), (0, .ref (A 0)), (3, .int x3), (4, .int x4)]) rfl ?_
      refine r_goto C (tgt := 27) dX4_digest_52 rfl ?_
      exact r_sub [2, 1, 3, 4, 0] rfl (ih V_6 L_7 t_8 (x5 + 1) hf)
set_option maxRecDepth 100000 in
theorem w_X4_digest_95 {X : XT} {E : EvT} {Z : Nat → Prop} {Q : State → Prop} {A : Nat → Nat} (C : Cx X (.code yX4_digest cX4_digest 6 (some .long)) cX4_digest 6 RX4 rm_X4_digest.frames rm_X4_digest.locals) (K : Ck X E Z) {r0 : Int64} {V0 : Nat → Nat → Int32} {L0 : Nat → Int64} (hret : RLo X 6 cX4_digest (IF X E Z (cw E A)) Q r0 (V0, L0)) {k80 : (Nat → Nat → Int32) → (Nat → Int64) → Int64 → Int32 → Option (Int64 × (Nat → Nat → Int32) × (Nat → Int64))} {x3 : Int32} (hk80 : ∀ (V : Nat → Nat → Int32) (L : Nat → Int64) (y1 : Int64) (x4 : Int32), k80 V L y1 x4 = some (r0, V0, L0) → Wm X 6 (IF X E Z (cw E A)) Q 80 [(0, .ref (A 0)), (1, .long y1), (3, .int x3), (4, .int x4)] [] (V, L)) (x4 : Int32) : ∀ (n : Nat) (V : Nat → Nat → Int32) (L : Nat → Int64) (y1 : Int64) (x5 : Int32), f_X4_digest_95 k80 x3 x4 n V L y1 x5 = some (r0, V0, L0) → Wm X 6 (IF X E Z (cw E A)) Q 95 [(0, .ref (A 0)), (1, .long y1), (3, .int x3), (4, .int x4), (5, .int x5)] [] (V, L) := by
  intro n
  induction n with
  | zero =>
    intro V L y1 x5 hf
    exact none_e hf
  | succ n ih =>
    intro V L y1 x5 hf
    rw [f_X4_digest_95] at hf
    refine r_iload C dX4_digest_95 4 rfl ?_
    refine r_iconst C dX4_digest_97 ki_2 ?_
    refine r_icmp_gt C (tgt := 123) dX4_digest_98 rfl hf (fun hf => ?_) (fun hf => ?_)
    · refine r_iinc C dX4_digest_123 3 rfl (kn_1 _) (Nat.le_of_ble_eq_true rfl) (lv2 := [(4, .int (x4 + 1)), (0, .ref (A 0)), (1, .long y1), (3, .int x3), (5, .int x5)]) rfl ?_
      refine r_goto C (tgt := 80) dX4_digest_126 rfl ?_
      exact r_sub [1, 2, 3, 0] rfl (hk80 V L y1 (x4 + 1) hf)
    · refine r_ldc2 C q_kl_RX4_188 dX4_digest_101 ?_
      refine r_lload_n C dX4_digest_104 1 rfl rfl ?_
      refine r_lmul C dX4_digest_105 ?_
      refine r_aload_n C dX4_digest_106 0 rfl rfl ?_
      refine r_iload C dX4_digest_107 3 rfl ?_
      refine r_iload C dX4_digest_109 4 rfl ?_
      refine bd3_e hf (fun r_1 V_2 L_3 hq hf => ?_)
      refine f_callI C K cal_RX4_196 ⟨rfl, rfl, Nat.le_of_ble_eq_true rfl, Nat.le_of_ble_eq_true rfl⟩ (t_X4_verse _ x4 x5 hq) (cw_o0 E A _ _) rfl (cw_fst _ _ _ _ _ _) rfl (rest := [.long ((31 : Int64) * y1)]) rfl (Nat.le_of_ble_eq_true rfl) dX4_digest_111 ?_
      refine r_i2l C dX4_digest_114 ?_
      refine r_ladd C dX4_digest_115 ?_
      refine b_long hf (fun t_4 hf => ?_)
      refine r_lstore_n C dX4_digest_116 rfl (Nat.le_of_ble_eq_true rfl) (lv2 := [(1, .long t_4), (0, .ref (A 0)), (3, .int x3), (4, .int x4), (5, .int x5)]) rfl ?_
      refine r_iinc C dX4_digest_117 4 rfl (kn_1 _) (Nat.le_of_ble_eq_true rfl) (lv2 := [(5, .int (x5 + 1)), (1, .long t_4), (0, .ref (A 0)), (3, .int x3), (4, .int x4)]) rfl ?_
      refine r_goto C (tgt := 95) dX4_digest_120 rfl ?_
      exact r_sub [2, 1, 3, 4, 0] rfl (ih V_2 L_3 t_4 (x5 + 1) hf)
set_option maxRecDepth 100000 in
theorem w_X4_digest_373 {X : XT} {E : EvT} {Z : Nat → Prop} {Q : State → Prop} {A : Nat → Nat} (C : Cx X (.code yX4_digest cX4_digest 6 (some .long)) cX4_digest 6 RX4 rm_X4_digest.frames rm_X4_digest.locals) (K : Ck X E Z) {r0 : Int64} {V0 : Nat → Nat → Int32} {L0 : Nat → Int64} (hret : RLo X 6 cX4_digest (IF X E Z (cw E A)) Q r0 (V0, L0)) (V : Nat → Nat → Int32) (L : Nat → Int64) : ∀ (n : Nat) (y1 : Int64) (x4 : Int32), f_X4_digest_373 V L n y1 x4 = some (r0, V0, L0) → Wm X 6 (IF X E Z (cw E A)) Q 373 [(0, .ref (A 0)), (1, .long y1), (4, .int x4)] [] (V, L) := by
  intro n
  induction n with
  | zero =>
    intro y1 x4 hf
    exact none_e hf
  | succ n ih =>
    intro y1 x4 hf
    rw [f_X4_digest_373] at hf
    refine r_iload C dX4_digest_373 2 rfl ?_
    refine r_bipush C dX4_digest_375 kb_10 ?_
    refine r_icmp_gt C (tgt := 400) dX4_digest_377 rfl hf (fun hf => ?_) (fun hf => ?_)
    · refine r_lload_n C dX4_digest_400 1 rfl rfl ?_
      exact rl_OW hret hf dX4_digest_401
    · refine r_ldc2 C q_kl_RX4_188 dX4_digest_380 ?_
      refine r_lload_n C dX4_digest_383 1 rfl rfl ?_
      refine r_lmul C dX4_digest_384 ?_
      refine r_aload_n C dX4_digest_385 0 rfl rfl ?_
      refine r_iload C dX4_digest_386 2 rfl ?_
      refine f_callI C K cal_RX4_220 ⟨rfl, rfl, Nat.le_of_ble_eq_true rfl, Nat.le_of_ble_eq_true rfl⟩ (t_X4_count _ x4) (cw_o0 E A _ _) rfl (cw_fst _ _ _ _ _ _) rfl (rest := [.long ((31 : Int64) * y1)]) rfl (Nat.le_of_ble_eq_true rfl) dX4_digest_388 ?_
      refine r_i2l C dX4_digest_391 ?_
      refine r_ladd C dX4_digest_392 ?_
      refine b_long hf (fun t_1 hf => ?_)
      refine r_lstore_n C dX4_digest_393 rfl (Nat.le_of_ble_eq_true rfl) (lv2 := [(1, .long t_1), (0, .ref (A 0)), (4, .int x4)]) rfl ?_
      refine r_iinc C dX4_digest_394 2 rfl (kn_1 _) (Nat.le_of_ble_eq_true rfl) (lv2 := [(4, .int (x4 + 1)), (1, .long t_1), (0, .ref (A 0))]) rfl ?_
      refine r_goto C (tgt := 373) dX4_digest_397 rfl ?_
      exact r_sub [2, 1, 0] rfl (ih t_1 (x4 + 1) hf)
set_option maxRecDepth 100000 in
theorem w_X4_digest_321 {X : XT} {E : EvT} {Z : Nat → Prop} {Q : State → Prop} {A : Nat → Nat} (C : Cx X (.code yX4_digest cX4_digest 6 (some .long)) cX4_digest 6 RX4 rm_X4_digest.frames rm_X4_digest.locals) (K : Ck X E Z) {r0 : Int64} {V0 : Nat → Nat → Int32} {L0 : Nat → Int64} (hret : RLo X 6 cX4_digest (IF X E Z (cw E A)) Q r0 (V0, L0)) (V : Nat → Nat → Int32) (L : Nat → Int64) : ∀ (n : Nat) (y1 : Int64) (x4 : Int32), f_X4_digest_321 V L n y1 x4 = some (r0, V0, L0) → Wm X 6 (IF X E Z (cw E A)) Q 321 [(0, .ref (A 0)), (1, .long y1), (4, .int x4)] [] (V, L) := by
  intro n
  induction n with
  | zero =>
    intro y1 x4 hf
    exact none_e hf
  | succ n ih =>
    intro y1 x4 hf
    rw [f_X4_digest_321] at hf
    refine r_iload C dX4_digest_321 2 rfl ?_
    refine r_aload_n C dX4_digest_323 0 rfl rfl ?_
    refine g_RX4_15_0 C K dX4_digest_324 ?_
    refine g_RX4_39_1 C K dX4_digest_327 ?_
    refine r_icmp_ge C (tgt := 370) dX4_digest_330 rfl hf (fun hf => ?_) (fun hf => ?_)
    · refine r_iconst C dX4_digest_370 ki_0 ?_
      refine r_istore C dX4_digest_371 (Nat.le_of_ble_eq_true rfl) (lv2 := [(4, .int (0 : Int32)), (0, .ref (A 0)), (1, .long y1)]) rfl ?_
      exact r_sub [1, 2, 0] rfl (w_X4_digest_373 C K hret V L 20000 y1 (0 : Int32) hf)
    · refine r_iload C dX4_digest_333 2 rfl ?_
      refine r_aload_n C dX4_digest_335 0 rfl rfl ?_
      refine g_RX4_15_0 C K dX4_digest_336 ?_
      refine g_RX4_217_1 C K dX4_digest_339 ?_
      refine s_alen C K (cw_a2 E A _ _) (r := 20) (by decide) dX4_digest_342 ?_
      refine r_icmp_ge C (tgt := 370) dX4_digest_343 rfl hf (fun hf => ?_) (fun hf => ?_)
      · refine r_iconst C dX4_digest_370 ki_0 ?_
        refine r_istore C dX4_digest_371 (Nat.le_of_ble_eq_true rfl) (lv2 := [(4, .int (0 : Int32)), (0, .ref (A 0)), (1, .long y1)]) rfl ?_
        exact r_sub [1, 2, 0] rfl (w_X4_digest_373 C K hret V L 20000 y1 (0 : Int32) hf)
      · refine r_ldc2 C q_kl_RX4_188 dX4_digest_346 ?_
        refine r_lload_n C dX4_digest_349 1 rfl rfl ?_
        refine r_lmul C dX4_digest_350 ?_
        refine r_aload_n C dX4_digest_351 0 rfl rfl ?_
        refine g_RX4_15_0 C K dX4_digest_352 ?_
        refine g_RX4_217_1 C K dX4_digest_355 ?_
        refine r_iload C dX4_digest_358 2 rfl ?_
        refine s_iald C K (cw_a2 E A _ _) dX4_digest_360 hf (fun hf => ?_)
        refine r_i2l C dX4_digest_361 ?_
        refine r_ladd C dX4_digest_362 ?_
        refine b_long hf (fun t_1 hf => ?_)
        refine r_lstore_n C dX4_digest_363 rfl (Nat.le_of_ble_eq_true rfl) (lv2 := [(1, .long t_1), (0, .ref (A 0)), (4, .int x4)]) rfl ?_
        refine r_iinc C dX4_digest_364 2 rfl (kn_1 _) (Nat.le_of_ble_eq_true rfl) (lv2 := [(4, .int (x4 + 1)), (1, .long t_1), (0, .ref (A 0))]) rfl ?_
        refine r_goto C (tgt := 321) dX4_digest_367 rfl ?_
        exact r_sub [2, 1, 0] rfl (ih t_1 (x4 + 1) hf)
set_option maxRecDepth 100000 in
theorem w_X4_digest_261 {X : XT} {E : EvT} {Z : Nat → Prop} {Q : State → Prop} {A : Nat → Nat} (C : Cx X (.code yX4_digest cX4_digest 6 (some .long)) cX4_digest 6 RX4 rm_X4_digest.frames rm_X4_digest.locals) (K : Ck X E Z) {r0 : Int64} {V0 : Nat → Nat → Int32} {L0 : Nat → Int64} (hret : RLo X 6 cX4_digest (IF X E Z (cw E A)) Q r0 (V0, L0)) (x3 : Int32) : ∀ (n : Nat) (V : Nat → Nat → Int32) (L : Nat → Int64) (y1 : Int64) (x4 : Int32), f_X4_digest_261 x3 n V L y1 x4 = some (r0, V0, L0) → Wm X 6 (IF X E Z (cw E A)) Q 261 [(0, .ref (A 0)), (1, .long y1), (3, .int x3), (4, .int x4)] [] (V, L) := by
  intro n
  induction n with
  | zero =>
    intro V L y1 x4 hf
    exact none_e hf
  | succ n ih =>
    intro V L y1 x4 hf
    rw [f_X4_digest_261] at hf
    refine r_iload C dX4_digest_261 3 rfl ?_
    refine r_iload_n C dX4_digest_263 2 rfl rfl ?_
    refine r_icmp_ge C (tgt := 318) dX4_digest_264 rfl hf (fun hf => ?_) (fun hf => ?_)
    · refine r_iconst C dX4_digest_318 ki_0 ?_
      refine r_istore C dX4_digest_319 (Nat.le_of_ble_eq_true rfl) (lv2 := [(4, .int (0 : Int32)), (0, .ref (A 0)), (1, .long y1), (3, .int x3)]) rfl ?_
      exact r_sub [1, 2, 0] rfl (w_X4_digest_321 C K hret V L 20000 y1 (0 : Int32) hf)
    · refine r_aload_n C dX4_digest_267 0 rfl rfl ?_
      refine g_RX4_19_0 C K dX4_digest_268 ?_
      refine g_RX4_62_5 C K dX4_digest_271 ?_
      refine r_iload C dX4_digest_274 3 rfl ?_
      refine s_callIr C K jc6 cal_RX4_76 ⟨rfl, rfl, Nat.le_of_ble_eq_true rfl, Nat.le_of_ble_eq_true rfl⟩ (t_X0_isIn _ jc6 x4) rfl (rest := []) rfl (Nat.le_of_ble_eq_true rfl) dX4_digest_276 ?_
      refine r_if_eq C (tgt := 312) dX4_digest_279 rfl hf (fun hf => ?_) (fun hf => ?_)
      · refine r_iinc C dX4_digest_312 3 rfl (kn_1 _) (Nat.le_of_ble_eq_true rfl) (lv2 := [(4, .int (x4 + 1)), (0, .ref (A 0)), (1, .long y1), (3, .int x3)]) rfl ?_
        refine r_goto C (tgt := 261) dX4_digest_315 rfl ?_
        exact r_sub [1, 2, 3, 0] rfl (ih V L y1 (x4 + 1) hf)
      · refine r_ldc2 C q_kl_RX4_188 dX4_digest_282 ?_
        refine r_lload_n C dX4_digest_285 1 rfl rfl ?_
        refine r_lmul C dX4_digest_286 ?_
        refine r_aload_n C dX4_digest_287 0 rfl rfl ?_
        refine r_iload C dX4_digest_288 3 rfl ?_
        refine r_iconst C dX4_digest_290 ki_0 ?_
        refine bd3_e hf (fun r_1 V_2 L_3 hq hf => ?_)
        refine f_callI C K cal_RX4_214 ⟨rfl, rfl, Nat.le_of_ble_eq_true rfl, Nat.le_of_ble_eq_true rfl⟩ (t_X4_likely _ x4 (0 : Int32) hq) (cw_o0 E A _ _) rfl (cw_fst _ _ _ _ _ _) rfl (rest := [.long ((31 : Int64) * y1)]) rfl (Nat.le_of_ble_eq_true rfl) dX4_digest_291 ?_
        refine r_i2l C dX4_digest_294 ?_
        refine r_ladd C dX4_digest_295 ?_
        refine b_long hf (fun t_4 hf => ?_)
        refine r_lstore_n C dX4_digest_296 rfl (Nat.le_of_ble_eq_true rfl) (lv2 := [(1, .long t_4), (0, .ref (A 0)), (3, .int x3), (4, .int x4)]) rfl ?_
        refine r_ldc2 C q_kl_RX4_188 dX4_digest_297 ?_
        refine r_lload_n C dX4_digest_300 0 rfl rfl ?_
        refine r_lmul C dX4_digest_301 ?_
        refine r_aload_n C dX4_digest_302 1 rfl rfl ?_
        refine r_iload C dX4_digest_303 3 rfl ?_
        refine r_iconst C dX4_digest_305 ki_1 ?_
        refine bd3_e hf (fun r_5 V_6 L_7 hq hf => ?_)
        refine f_callI C K cal_RX4_214 ⟨rfl, rfl, Nat.le_of_ble_eq_true rfl, Nat.le_of_ble_eq_true rfl⟩ (t_X4_likely _ x4 (1 : Int32) hq) (cw_o0 E A _ _) rfl (cw_fst _ _ _ _ _ _) rfl (rest := [.long ((31 : Int64) * t_4)]) rfl (Nat.le_of_ble_eq_true rfl) dX4_digest_306 ?_
        refine r_i2l C dX4_digest_309 ?_
        refine r_ladd C dX4_digest_310 ?_
        refine b_long hf (fun t_8 hf => ?_)
        refine r_lstore_n C dX4_digest_311 rfl (Nat.le_of_ble_eq_true rfl) (lv2 := [(1, .long t_8), (0, .ref (A 0)), (3, .int x3), (4, .int x4)]) rfl ?_
        refine r_iinc C dX4_digest_312 3 rfl (kn_1 _) (Nat.le_of_ble_eq_true rfl) (lv2 := [(4, .int (x4 + 1)), (1, .long t_8), (0, .ref (A 0)), (3, .int x3)]) rfl ?_
        refine r_goto C (tgt := 261) dX4_digest_315 rfl ?_
        exact r_sub [2, 1, 3, 0] rfl (ih V_6 L_7 t_8 (x4 + 1) hf)
set_option maxRecDepth 100000 in
theorem w_X4_digest_190 {X : XT} {E : EvT} {Z : Nat → Prop} {Q : State → Prop} {A : Nat → Nat} (C : Cx X (.code yX4_digest cX4_digest 6 (some .long)) cX4_digest 6 RX4 rm_X4_digest.frames rm_X4_digest.locals) (K : Ck X E Z) {r0 : Int64} {V0 : Nat → Nat → Int32} {L0 : Nat → Int64} (hret : RLo X 6 cX4_digest (IF X E Z (cw E A)) Q r0 (V0, L0)) : ∀ (V : Nat → Nat → Int32) (L : Nat → Int64) (y1 : Int64) (x3 : Int32), f_X4_digest_190 V L y1 x3 = some (r0, V0, L0) → Wm X 6 (IF X E Z (cw E A)) Q 190 [(0, .ref (A 0)), (1, .long y1), (3, .int x3)] [] (V, L) := by
  intro V L y1 x3 hf
  rw [f_X4_digest_190] at hf
  refine r_aload_n C dX4_digest_190 0 rfl rfl ?_
  refine g_RX4_19_0 C K dX4_digest_191 ?_
  refine f_callI C K cal_RX4_123 ⟨rfl, rfl, Nat.le_of_ble_eq_true rfl, Nat.le_of_ble_eq_true rfl⟩ (t_X3_hasRing _) (cw_o5 E A _ _) rfl (cw_fst _ _ _ _ _ _) rfl (rest := []) rfl (Nat.le_of_ble_eq_true rfl) dX4_digest_194 ?_
  refine r_if_eq C (tgt := 258) dX4_digest_197 rfl hf (fun hf => ?_) (fun hf => ?_)
  · refine r_iconst C dX4_digest_258 ki_0 ?_
    refine r_istore C dX4_digest_259 (Nat.le_of_ble_eq_true rfl) (lv2 := [(4, .int (0 : Int32)), (0, .ref (A 0)), (1, .long y1), (3, .int x3)]) rfl ?_
    exact r_sub [1, 2, 3, 0] rfl (w_X4_digest_261 C K hret x3 20000 V L y1 (0 : Int32) hf)
  · refine r_aload_n C dX4_digest_200 0 rfl rfl ?_
    refine g_RX4_19_0 C K dX4_digest_201 ?_
    refine g_RX4_62_5 C K dX4_digest_204 ?_
    refine r_iconst C dX4_digest_207 ki_0 ?_
    refine s_callIr C K jc6 cal_RX4_76 ⟨rfl, rfl, Nat.le_of_ble_eq_true rfl, Nat.le_of_ble_eq_true rfl⟩ (t_X0_isIn _ jc6 (0 : Int32)) rfl (rest := []) rfl (Nat.le_of_ble_eq_true rfl) dX4_digest_208 ?_
    refine r_if_eq C (tgt := 258) dX4_digest_211 rfl hf (fun hf => ?_) (fun hf => ?_)
    · refine r_iconst C dX4_digest_258 ki_0 ?_
      refine r_istore C dX4_digest_259 (Nat.le_of_ble_eq_true rfl) (lv2 := [(4, .int (0 : Int32)), (0, .ref (A 0)), (1, .long y1), (3, .int x3)]) rfl ?_
      exact r_sub [1, 2, 3, 0] rfl (w_X4_digest_261 C K hret x3 20000 V L y1 (0 : Int32) hf)
    · refine r_aload_n C dX4_digest_214 0 rfl rfl ?_
      refine g_RX4_19_0 C K dX4_digest_215 ?_
      refine g_RX4_62_5 C K dX4_digest_218 ?_
      refine r_iconst C dX4_digest_221 ki_1 ?_
      refine s_callIr C K jc6 cal_RX4_76 ⟨rfl, rfl, Nat.le_of_ble_eq_true rfl, Nat.le_of_ble_eq_true rfl⟩ (t_X0_isIn _ jc6 (1 : Int32)) rfl (rest := []) rfl (Nat.le_of_ble_eq_true rfl) dX4_digest_222 ?_
      refine r_if_eq C (tgt := 258) dX4_digest_225 rfl hf (fun hf => ?_) (fun hf => ?_)
      · refine r_iconst C dX4_digest_258 ki_0 ?_
        refine r_istore C dX4_digest_259 (Nat.le_of_ble_eq_true rfl) (lv2 := [(4, .int (0 : Int32)), (0, .ref (A 0)), (1, .long y1), (3, .int x3)]) rfl ?_
        exact r_sub [1, 2, 3, 0] rfl (w_X4_digest_261 C K hret x3 20000 V L y1 (0 : Int32) hf)
      · refine r_ldc2 C q_kl_RX4_188 dX4_digest_228 ?_
        refine r_lload_n C dX4_digest_231 1 rfl rfl ?_
        refine r_lmul C dX4_digest_232 ?_
        refine r_aload_n C dX4_digest_233 0 rfl rfl ?_
        refine r_iconst C dX4_digest_234 ki_0 ?_
        refine r_iconst C dX4_digest_235 ki_1 ?_
        refine r_iconst C dX4_digest_236 ki_0 ?_
        refine bd3_e hf (fun r_1 V_2 L_3 hq hf => ?_)
        refine f_callI C K cal_RX4_211 ⟨rfl, rfl, Nat.le_of_ble_eq_true rfl, Nat.le_of_ble_eq_true rfl⟩ (t_X4_game _ (0 : Int32) (1 : Int32) (0 : Int32) hq) (cw_o0 E A _ _) rfl (cw_fst _ _ _ _ _ _) rfl (rest := [.long ((31 : Int64) * y1)]) rfl (Nat.le_of_ble_eq_true rfl) dX4_digest_237 ?_
        refine r_i2l C dX4_digest_240 ?_
        refine r_ladd C dX4_digest_241 ?_
        refine b_long hf (fun t_4 hf => ?_)
        refine r_lstore_n C dX4_digest_242 rfl (Nat.le_of_ble_eq_true rfl) (lv2 := [(1, .long t_4), (0, .ref (A 0)), (3, .int x3)]) rfl ?_
        refine r_ldc2 C q_kl_RX4_188 dX4_digest_243 ?_
        refine r_lload_n C dX4_digest_246 0 rfl rfl ?_
        refine r_lmul C dX4_digest_247 ?_
        refine r_aload_n C dX4_digest_248 1 rfl rfl ?_
        refine r_iconst C dX4_digest_249 ki_0 ?_
        refine r_iconst C dX4_digest_250 ki_1 ?_
        refine r_iconst C dX4_digest_251 ki_1 ?_
        refine bd3_e hf (fun r_5 V_6 L_7 hq hf => ?_)
        refine f_callI C K cal_RX4_211 ⟨rfl, rfl, Nat.le_of_ble_eq_true rfl, Nat.le_of_ble_eq_true rfl⟩ (t_X4_game _ (0 : Int32) (1 : Int32) (1 : Int32) hq) (cw_o0 E A _ _) rfl (cw_fst _ _ _ _ _ _) rfl (rest := [.long ((31 : Int64) * t_4)]) rfl (Nat.le_of_ble_eq_true rfl) dX4_digest_252 ?_
        refine r_i2l C dX4_digest_255 ?_
        refine r_ladd C dX4_digest_256 ?_
        refine b_long hf (fun t_8 hf => ?_)
        refine r_lstore_n C dX4_digest_257 rfl (Nat.le_of_ble_eq_true rfl) (lv2 := [(1, .long t_8), (0, .ref (A 0)), (3, .int x3)]) rfl ?_
        refine r_iconst C dX4_digest_258 ki_0 ?_
        refine r_istore C dX4_digest_259 (Nat.le_of_ble_eq_true rfl) (lv2 := [(4, .int (0 : Int32)), (1, .long t_8), (0, .ref (A 0)), (3, .int x3)]) rfl ?_
        exact r_sub [2, 1, 3, 0] rfl (w_X4_digest_261 C K hret x3 20000 V_6 L_7 t_8 (0 : Int32) hf)
set_option maxRecDepth 100000 in
theorem w_X4_digest_80 {X : XT} {E : EvT} {Z : Nat → Prop} {Q : State → Prop} {A : Nat → Nat} (C : Cx X (.code yX4_digest cX4_digest 6 (some .long)) cX4_digest 6 RX4 rm_X4_digest.frames rm_X4_digest.locals) (K : Ck X E Z) {r0 : Int64} {V0 : Nat → Nat → Int32} {L0 : Nat → Int64} (hret : RLo X 6 cX4_digest (IF X E Z (cw E A)) Q r0 (V0, L0)) (x3 : Int32) : ∀ (n : Nat) (V : Nat → Nat → Int32) (L : Nat → Int64) (y1 : Int64) (x4 : Int32), f_X4_digest_80 x3 n V L y1 x4 = some (r0, V0, L0) → Wm X 6 (IF X E Z (cw E A)) Q 80 [(0, .ref (A 0)), (1, .long y1), (3, .int x3), (4, .int x4)] [] (V, L) := by
  intro n
  induction n with
  | zero =>
    intro V L y1 x4 hf
    exact none_e hf
  | succ n ih =>
    intro V L y1 x4 hf
    rw [f_X4_digest_80] at hf
    refine r_iload C dX4_digest_80 3 rfl ?_
    refine r_aload_n C dX4_digest_82 0 rfl rfl ?_
    refine g_RX4_19_0 C K dX4_digest_83 ?_
    refine g_RX4_172_5 C K dX4_digest_86 ?_
    refine r_icmp_ge C (tgt := 129) dX4_digest_89 rfl hf (fun hf => ?_) (fun hf => ?_)
    · refine r_aload_n C dX4_digest_129 0 rfl rfl ?_
      refine g_RX4_19_0 C K dX4_digest_130 ?_
      refine f_callI C K cal_RX4_123 ⟨rfl, rfl, Nat.le_of_ble_eq_true rfl, Nat.le_of_ble_eq_true rfl⟩ (t_X3_hasRing _) (cw_o5 E A _ _) rfl (cw_fst _ _ _ _ _ _) rfl (rest := []) rfl (Nat.le_of_ble_eq_true rfl) dX4_digest_133 ?_
      refine r_if_eq C (tgt := 190) dX4_digest_136 rfl hf (fun hf => ?_) (fun hf => ?_)
      · exact r_sub [0, 1, 2] rfl (w_X4_digest_190 C K hret V L y1 x3 hf)
      · refine r_ldc2 C q_kl_RX4_188 dX4_digest_139 ?_
        refine r_lload_n C dX4_digest_142 1 rfl rfl ?_
        refine r_lmul C dX4_digest_143 ?_
        refine r_aload_n C dX4_digest_144 0 rfl rfl ?_
        refine r_iconst C dX4_digest_145 ki_3 ?_
        refine bd3_e hf (fun r_1 V_2 L_3 hq hf => ?_)
        refine f_callI C K cal_RX4_199 ⟨rfl, rfl, Nat.le_of_ble_eq_true rfl, Nat.le_of_ble_eq_true rfl⟩ (t_X4_last _ (3 : Int32) hq) (cw_o0 E A _ _) rfl (cw_fst _ _ _ _ _ _) rfl (rest := [.long ((31 : Int64) * y1)]) rfl (Nat.le_of_ble_eq_true rfl) dX4_digest_146 ?_
        refine r_i2l C dX4_digest_149 ?_
        refine r_ladd C dX4_digest_150 ?_
        refine b_long hf (fun t_4 hf => ?_)
        refine r_lstore_n C dX4_digest_151 rfl (Nat.le_of_ble_eq_true rfl) (lv2 := [(1, .long t_4), (0, .ref (A 0)), (3, .int x3), (4, .int x4)]) rfl ?_
        refine r_ldc2 C q_kl_RX4_188 dX4_digest_152 ?_
        refine r_lload_n C dX4_digest_155 0 rfl rfl ?_
        refine r_lmul C dX4_digest_156 ?_
        refine r_aload_n C dX4_digest_157 1 rfl rfl ?_
        refine r_iconst C dX4_digest_158 ki_0 ?_
        refine r_iconst C dX4_digest_159 ki_5 ?_
        refine bd3_e hf (fun r_5 V_6 L_7 hq hf => ?_)
        refine f_callI C K cal_RX4_202 ⟨rfl, rfl, Nat.le_of_ble_eq_true rfl, Nat.le_of_ble_eq_true rfl⟩ (t_X4_stand _ (0 : Int32) (5 : Int32) hq) (cw_o0 E A _ _) rfl (cw_fst _ _ _ _ _ _) rfl (rest := [.long ((31 : Int64) * t_4)]) rfl (Nat.le_of_ble_eq_true rfl) dX4_digest_160 ?_
        refine r_i2l C dX4_digest_163 ?_
        refine r_ladd C dX4_digest_164 ?_
        refine b_long hf (fun t_8 hf => ?_)
        refine r_lstore_n C dX4_digest_165 rfl (Nat.le_of_ble_eq_true rfl) (lv2 := [(1, .long t_8), (0, .ref (A 0)), (3, .int x3), (4, .int x4)]) rfl ?_
        refine r_ldc2 C q_kl_RX4_188 dX4_digest_166 ?_
        refine r_lload_n C dX4_digest_169 0 rfl rfl ?_
        refine r_lmul C dX4_digest_170 ?_
        refine r_aload_n C dX4_digest_171 1 rfl rfl ?_
        refine bd3_e hf (fun r_9 V_10 L_11 hq hf => ?_)
        refine f_callI C K cal_RX4_205 ⟨rfl, rfl, Nat.le_of_ble_eq_true rfl, Nat.le_of_ble_eq_true rfl⟩ (t_X4_lengths _ hq) (cw_o0 E A _ _) rfl (cw_fst _ _ _ _ _ _) rfl (rest := [.long ((31 : Int64) * t_8)]) rfl (Nat.le_of_ble_eq_true rfl) dX4_digest_172 ?_
        refine r_i2l C dX4_digest_175 ?_
        refine r_ladd C dX4_digest_176 ?_
        refine b_long hf (fun t_12 hf => ?_)
        refine r_lstore_n C dX4_digest_177 rfl (Nat.le_of_ble_eq_true rfl) (lv2 := [(1, .long t_12), (0, .ref (A 0)), (3, .int x3), (4, .int x4)]) rfl ?_
        refine r_ldc2 C q_kl_RX4_188 dX4_digest_178 ?_
        refine r_lload_n C dX4_digest_181 0 rfl rfl ?_
        refine r_lmul C dX4_digest_182 ?_
        refine r_aload_n C dX4_digest_183 1 rfl rfl ?_
        refine bd3_e hf (fun r_13 V_14 L_15 hq hf => ?_)
        refine f_callI C K cal_RX4_208 ⟨rfl, rfl, Nat.le_of_ble_eq_true rfl, Nat.le_of_ble_eq_true rfl⟩ (t_X4_from _ hq) (cw_o0 E A _ _) rfl (cw_fst _ _ _ _ _ _) rfl (rest := [.long ((31 : Int64) * t_12)]) rfl (Nat.le_of_ble_eq_true rfl) dX4_digest_184 ?_
        refine r_i2l C dX4_digest_187 ?_
        refine r_ladd C dX4_digest_188 ?_
        refine b_long hf (fun t_16 hf => ?_)
        refine r_lstore_n C dX4_digest_189 rfl (Nat.le_of_ble_eq_true rfl) (lv2 := [(1, .long t_16), (0, .ref (A 0)), (3, .int x3), (4, .int x4)]) rfl ?_
        exact r_sub [1, 0, 2] rfl (w_X4_digest_190 C K hret V_14 L_15 t_16 x3 hf)
    · refine r_iconst C dX4_digest_92 ki_0 ?_
      refine r_istore C dX4_digest_93 (Nat.le_of_ble_eq_true rfl) (lv2 := [(5, .int (0 : Int32)), (0, .ref (A 0)), (1, .long y1), (3, .int x3), (4, .int x4)]) rfl ?_
      exact r_sub [1, 2, 3, 4, 0] rfl (w_X4_digest_95 C K hret ih x4 20000 V L y1 (0 : Int32) hf)
set_option maxRecDepth 100000 in
theorem w_X4_digest_18 {X : XT} {E : EvT} {Z : Nat → Prop} {Q : State → Prop} {A : Nat → Nat} (C : Cx X (.code yX4_digest cX4_digest 6 (some .long)) cX4_digest 6 RX4 rm_X4_digest.frames rm_X4_digest.locals) (K : Ck X E Z) {r0 : Int64} {V0 : Nat → Nat → Int32} {L0 : Nat → Int64} (hret : RLo X 6 cX4_digest (IF X E Z (cw E A)) Q r0 (V0, L0)) (x3 : Int32) : ∀ (n : Nat) (V : Nat → Nat → Int32) (L : Nat → Int64) (y1 : Int64) (x4 : Int32), f_X4_digest_18 x3 n V L y1 x4 = some (r0, V0, L0) → Wm X 6 (IF X E Z (cw E A)) Q 18 [(0, .ref (A 0)), (1, .long y1), (3, .int x3), (4, .int x4)] [] (V, L) := by
  intro n
  induction n with
  | zero =>
    intro V L y1 x4 hf
    exact none_e hf
  | succ n ih =>
    intro V L y1 x4 hf
    rw [f_X4_digest_18] at hf
    refine r_iload C dX4_digest_18 3 rfl ?_
    refine r_iload_n C dX4_digest_20 2 rfl rfl ?_
    refine r_icmp_ge C (tgt := 77) dX4_digest_21 rfl hf (fun hf => ?_) (fun hf => ?_)
    · refine r_iconst C dX4_digest_77 ki_0 ?_
      refine r_istore C dX4_digest_78 (Nat.le_of_ble_eq_true rfl) (lv2 := [(4, .int (0 : Int32)), (0, .ref (A 0)), (1, .long y1), (3, .int x3)]) rfl ?_
      exact r_sub [1, 2, 3, 0] rfl (w_X4_digest_80 C K hret x3 20000 V L y1 (0 : Int32) hf)
    · refine r_iconst C dX4_digest_24 ki_0 ?_
      refine r_istore C dX4_digest_25 (Nat.le_of_ble_eq_true rfl) (lv2 := [(5, .int (0 : Int32)), (0, .ref (A 0)), (1, .long y1), (3, .int x3), (4, .int x4)]) rfl ?_
      exact r_sub [1, 2, 3, 4, 0] rfl (w_X4_digest_27 C K hret ih x4 20000 V L y1 (0 : Int32) hf)
set_option maxRecDepth 100000 in
theorem w_X4_digest_0 {X : XT} {E : EvT} {Z : Nat → Prop} {Q : State → Prop} {A : Nat → Nat} (C : Cx X (.code yX4_digest cX4_digest 6 (some .long)) cX4_digest 6 RX4 rm_X4_digest.frames rm_X4_digest.locals) (K : Ck X E Z) {r0 : Int64} {V0 : Nat → Nat → Int32} {L0 : Nat → Int64} (hret : RLo X 6 cX4_digest (IF X E Z (cw E A)) Q r0 (V0, L0)) : ∀ (V : Nat → Nat → Int32) (L : Nat → Int64), f_X4_digest V L = some (r0, V0, L0) → Wm X 6 (IF X E Z (cw E A)) Q 0 [(0, .ref (A 0))] [] (V, L) := by
  intro V L hf
  rw [f_X4_digest] at hf
  refine r_ldc2 C q_kl_RX4_186 dX4_digest_0 ?_
  refine r_lstore_n C dX4_digest_3 rfl (Nat.le_of_ble_eq_true rfl) (lv2 := [(1, .long (1289 : Int64)), (0, .ref (A 0))]) rfl ?_
  refine r_aload_n C dX4_digest_4 1 rfl rfl ?_
  refine g_RX4_19_0 C K dX4_digest_5 ?_
  refine g_RX4_62_5 C K dX4_digest_8 ?_
  refine g_RX4_66_6 C K dX4_digest_11 ?_
  refine r_istore_n C dX4_digest_14 rfl (Nat.le_of_ble_eq_true rfl) (lv2 := [(3, .int (V 6 0)), (1, .long (1289 : Int64)), (0, .ref (A 0))]) rfl ?_
  refine r_iconst C dX4_digest_15 ki_0 ?_
  refine r_istore C dX4_digest_16 (Nat.le_of_ble_eq_true rfl) (lv2 := [(4, .int (0 : Int32)), (3, .int (V 6 0)), (1, .long (1289 : Int64)), (0, .ref (A 0))]) rfl ?_
  exact r_sub [3, 2, 1, 0] rfl (w_X4_digest_18 C K hret (V 6 0) 20000 V L (1289 : Int64) (0 : Int32) hf)
theorem t_X4_digest (l : Launch) {E : EvT} {A : Nat → Nat} {V : Nat → Nat → Int32} {L : Nat → Int64} {r0 : Int64} {V0 : Nat → Nat → Int32} {L0 : Nat → Int64} (hq : f_X4_digest V L = some (r0, V0, L0)) : KL l yX4_digest (.code yX4_digest cX4_digest 6 (some .long) :: wA) rm_X4_digest E (cw E A V L) (cw E A V0 L0) [.ref (A 0)] r0 := by
  refine ent_L (own := RX4) (lv0 := [(0, .ref (A 0))]) (by decide) rfl rfl (Nat.le_of_ble_eq_true rfl) rfl (cw_fst _ _ _ _ _ _) ?_
  intro X Z Q hl C K hret
  exact w_X4_digest_0 C K hret V L  hq
