set_option maxRecDepth 100000 in
theorem w_X5_back_0 {X : XT} {E : EvT} {Z : Nat → Prop} {Q : State → Prop} {A : Nat → Nat} (C : Cx X (.code yX5_back cX5_back 2 (some .int)) cX5_back 2 RX5 rm_X5_back.frames rm_X5_back.locals) (K : Ck X E Z) {r0 : Int32} {V0 : Nat → Nat → Int32} {L0 : Nat → Int64} (hret : RI X 2 cX5_back (IF X E Z (mw E A)) Q .int r0 (V0, L0)) : ∀ (V : Nat → Nat → Int32) (L : Nat → Int64) (x1 : Int32), f_X5_back V L x1 = some (r0, V0, L0) → Wm X 2 (IF X E Z (mw E A)) Q 0 [(0, .ref (A 0)), (1, .int x1)] [] (V, L) := by
  intro V L x1 hf
  rw [f_X5_back] at hf
  refine r_aload_n C dX5_back_0 0 rfl rfl ?_
  refine r_iload_n C dX5_back_1 1 rfl rfl ?_
  refine f_callI C K cal_RX5_197 ⟨rfl, rfl, Nat.le_of_ble_eq_true rfl, Nat.le_of_ble_eq_true rfl⟩ (t_X5_isChild _ x1) (mw_o0 E A _ _) rfl (mw_fst _ _ _ _ _ _) rfl (rest := []) rfl (Nat.le_of_ble_eq_true rfl) dX5_back_2 ?_
  refine r_if_ne C (tgt := 11) dX5_back_5 rfl hf (fun hf => ?_) (fun hf => ?_)
  · refine r_aload_n C dX5_back_11 0 rfl rfl ?_
    refine g_RX5_119_0 C K dX5_back_12 ?_
    refine r_iload_n C dX5_back_15 1 rfl rfl ?_
    refine r_callP C cas_RX5_140 ⟨rfl, rfl, Nat.le_of_ble_eq_true rfl, Nat.le_of_ble_eq_true rfl⟩ (t_X5_isIn _ (V 0 5) x1) rfl (rest := []) rfl (Nat.le_of_ble_eq_true rfl) dX5_back_16 ?_
    refine r_if_eq C (tgt := 25) dX5_back_19 rfl hf (fun hf => ?_) (fun hf => ?_)
    · refine r_aload_n C dX5_back_25 0 rfl rfl ?_
      refine r_dup C dX5_back_26 rfl ?_
      refine g_RX5_119_0 C K dX5_back_27 ?_
      refine r_iconst C dX5_back_30 ki_1 ?_
      refine r_iload_n C dX5_back_31 1 rfl rfl ?_
      refine p_ishl C dX5_back_32 ?_
      refine r_ior C dX5_back_33 ?_
      refine p_RX5_119_0 C K dX5_back_34 hf (fun V_1 hf => ?_)
      refine r_aload_n C dX5_back_37 0 rfl rfl ?_
      refine g_RX5_119_0 C K dX5_back_38 ?_
      refine bd1_e hf (fun r_2 hq hf => ?_)
      refine r_callP C cas_RX5_146 ⟨rfl, rfl, Nat.le_of_ble_eq_true rfl, Nat.le_of_ble_eq_true rfl⟩ (t_X5_size _ (V_1 0 5) hq) rfl (rest := []) rfl (Nat.le_of_ble_eq_true rfl) dX5_back_41 ?_
      exact ri_OW hret hf dX5_back_44 rfl
    · refine r_bipush C dX5_back_22 kb_m103 ?_
      exact ri_OW hret hf dX5_back_24 rfl
  · refine r_bipush C dX5_back_8 kb_m101 ?_
    exact ri_OW hret hf dX5_back_10 rfl
theorem t_X5_back (l : Launch) {E : EvT} {A : Nat → Nat} {V : Nat → Nat → Int32} {L : Nat → Int64} (x1 : Int32) {r0 : Int32} {V0 : Nat → Nat → Int32} {L0 : Nat → Int64} (hq : f_X5_back V L x1 = some (r0, V0, L0)) : KI l yX5_back (.code yX5_back cX5_back 2 (some .int) :: wA) rm_X5_back E (mw E A V L) (mw E A V0 L0) [.ref (A 0), .int x1] r0 := by
  refine ent_I (own := RX5) (ty := .int) (lv0 := [(0, .ref (A 0)), (1, .int x1)]) (by decide) rfl rfl (Nat.le_of_ble_eq_true rfl) rfl (mw_fst _ _ _ _ _ _) ?_
  intro X Z Q hl C K hret
  exact w_X5_back_0 C K hret V L x1 hq
set_option maxRecDepth 100000 in
theorem w_X5_first_0 {X : XT} {E : EvT} {Z : Nat → Prop} {Q : State → Prop} {A : Nat → Nat} (C : Cx X (.code yX5_first cX5_first 3 (some .int)) cX5_first 3 RX5 rm_X5_first.frames rm_X5_first.locals) (K : Ck X E Z) {r0 : Int32} {V0 : Nat → Nat → Int32} {L0 : Nat → Int64} (hret : RI X 3 cX5_first (IF X E Z (mw E A)) Q .int r0 (V0, L0)) : ∀ (V : Nat → Nat → Int32) (L : Nat → Int64) (x1 : Int32), f_X5_first V L x1 = some (r0, V0, L0) → Wm X 3 (IF X E Z (mw E A)) Q 0 [(0, .ref (A 0)), (1, .int x1)] [] (V, L) := by
  intro V L x1 hf
  rw [f_X5_first] at hf
  refine r_aload_n C dX5_first_0 0 rfl rfl ?_
  refine r_iload_n C dX5_first_1 1 rfl rfl ?_
  refine f_callI C K cal_RX5_197 ⟨rfl, rfl, Nat.le_of_ble_eq_true rfl, Nat.le_of_ble_eq_true rfl⟩ (t_X5_isChild _ x1) (mw_o0 E A _ _) rfl (mw_fst _ _ _ _ _ _) rfl (rest := []) rfl (Nat.le_of_ble_eq_true rfl) dX5_first_2 ?_
  refine r_if_ne C (tgt := 11) dX5_first_5 rfl hf (fun hf => ?_) (fun hf => ?_)
  · refine r_aload_n C dX5_first_11 0 rfl rfl ?_
    refine g_RX5_125_0 C K dX5_first_12 ?_
    refine r_istore_n C dX5_first_15 rfl (Nat.le_of_ble_eq_true rfl) (lv2 := [(2, .int (V 0 7)), (0, .ref (A 0)), (1, .int x1)]) rfl ?_
    refine r_aload_n C dX5_first_16 1 rfl rfl ?_
    refine r_iload_n C dX5_first_17 2 rfl rfl ?_
    refine p_RX5_125_0 C K dX5_first_18 hf (fun V_1 hf => ?_)
    refine r_iload_n C dX5_first_21 0 rfl rfl ?_
    exact ri_OW hret hf dX5_first_22 rfl
  · refine r_bipush C dX5_first_8 kb_m101 ?_
    exact ri_OW hret hf dX5_first_10 rfl
theorem t_X5_first (l : Launch) {E : EvT} {A : Nat → Nat} {V : Nat → Nat → Int32} {L : Nat → Int64} (x1 : Int32) {r0 : Int32} {V0 : Nat → Nat → Int32} {L0 : Nat → Int64} (hq : f_X5_first V L x1 = some (r0, V0, L0)) : KI l yX5_first (.code yX5_first cX5_first 3 (some .int) :: wA) rm_X5_first E (mw E A V L) (mw E A V0 L0) [.ref (A 0), .int x1] r0 := by
  refine ent_I (own := RX5) (ty := .int) (lv0 := [(0, .ref (A 0)), (1, .int x1)]) (by decide) rfl rfl (Nat.le_of_ble_eq_true rfl) rfl (mw_fst _ _ _ _ _ _) ?_
  intro X Z Q hl C K hret
  exact w_X5_first_0 C K hret V L x1 hq
set_option maxRecDepth 100000 in
theorem w_X5_turn_26 {X : XT} {E : EvT} {Z : Nat → Prop} {Q : State → Prop} {A : Nat → Nat} (C : Cx X (.code yX5_turn cX5_turn 1 (some .int)) cX5_turn 1 RX5 rm_X5_turn.frames rm_X5_turn.locals) (K : Ck X E Z) {r0 : Int32} {V0 : Nat → Nat → Int32} {L0 : Nat → Int64} (hret : RI X 1 cX5_turn (IF X E Z (mw E A)) Q .int r0 (V0, L0)) : ∀ (V : Nat → Nat → Int32) (L : Nat → Int64), f_X5_turn_26 V L = some (r0, V0, L0) → Wm X 1 (IF X E Z (mw E A)) Q 26 [(0, .ref (A 0))] [] (V, L) := by
  intro V L hf
  rw [f_X5_turn_26] at hf
  refine r_aload_n C dX5_turn_26 0 rfl rfl ?_
  refine g_RX5_128_0 C K dX5_turn_27 ?_
  refine r_if_eq C (tgt := 37) dX5_turn_30 rfl hf (fun hf => ?_) (fun hf => ?_)
  · refine r_iconst C dX5_turn_37 ki_1 ?_
    exact ri_OW hret hf dX5_turn_38 rfl
  · refine r_iconst C dX5_turn_33 ki_0 ?_
    refine r_goto C (tgt := 38) dX5_turn_34 rfl ?_
    exact ri_OW hret hf dX5_turn_38 rfl
set_option maxRecDepth 100000 in
theorem w_X5_turn_0 {X : XT} {E : EvT} {Z : Nat → Prop} {Q : State → Prop} {A : Nat → Nat} (C : Cx X (.code yX5_turn cX5_turn 1 (some .int)) cX5_turn 1 RX5 rm_X5_turn.frames rm_X5_turn.locals) (K : Ck X E Z) {r0 : Int32} {V0 : Nat → Nat → Int32} {L0 : Nat → Int64} (hret : RI X 1 cX5_turn (IF X E Z (mw E A)) Q .int r0 (V0, L0)) : ∀ (V : Nat → Nat → Int32) (L : Nat → Int64), f_X5_turn V L = some (r0, V0, L0) → Wm X 1 (IF X E Z (mw E A)) Q 0 [(0, .ref (A 0))] [] (V, L) := by
  intro V L hf
  rw [f_X5_turn] at hf
  refine r_aload_n C dX5_turn_0 0 rfl rfl ?_
  refine g_RX5_116_0 C K dX5_turn_1 ?_
  refine r_if_ne C (tgt := 10) dX5_turn_4 rfl hf (fun hf => ?_) (fun hf => ?_)
  · refine r_aload_n C dX5_turn_10 0 rfl rfl ?_
    refine r_aload_n C dX5_turn_11 0 rfl rfl ?_
    refine g_RX5_128_0 C K dX5_turn_12 ?_
    refine r_if_ne C (tgt := 22) dX5_turn_15 rfl hf (fun hf => ?_) (fun hf => ?_)
    · refine r_iconst C dX5_turn_22 ki_0 ?_
      refine p_RX5_128_0 rfl C K dX5_turn_23 hf (fun V_1 hf => ?_)
      exact r_sub [0] rfl (w_X5_turn_26 C K hret V_1 L hf)
    · refine r_iconst C dX5_turn_18 ki_1 ?_
      refine r_goto C (tgt := 23) dX5_turn_19 rfl ?_
      refine p_RX5_128_0 rfl C K dX5_turn_23 hf (fun V_2 hf => ?_)
      exact r_sub [0] rfl (w_X5_turn_26 C K hret V_2 L hf)
  · refine r_bipush C dX5_turn_7 kb_m103 ?_
    exact ri_OW hret hf dX5_turn_9 rfl
theorem t_X5_turn (l : Launch) {E : EvT} {A : Nat → Nat} {V : Nat → Nat → Int32} {L : Nat → Int64} {r0 : Int32} {V0 : Nat → Nat → Int32} {L0 : Nat → Int64} (hq : f_X5_turn V L = some (r0, V0, L0)) : KI l yX5_turn (.code yX5_turn cX5_turn 1 (some .int) :: wA) rm_X5_turn E (mw E A V L) (mw E A V0 L0) [.ref (A 0)] r0 := by
  refine ent_I (own := RX5) (ty := .int) (lv0 := [(0, .ref (A 0))]) (by decide) rfl rfl (Nat.le_of_ble_eq_true rfl) rfl (mw_fst _ _ _ _ _ _) ?_
  intro X Z Q hl C K hret
  exact w_X5_turn_0 C K hret V L  hq
set_option maxRecDepth 100000 in
theorem w_X5_beats_0 {X : XT} {E : EvT} {Z : Nat → Prop} {Q : State → Prop} {A : Nat → Nat} (C : Cx X (.code yX5_beats cX5_beats 4 (some .int)) cX5_beats 4 RX5 rm_X5_beats.frames rm_X5_beats.locals) (K : Ck X E Z) {r0 : Int32} {V0 : Nat → Nat → Int32} {L0 : Nat → Int64} (hret : RI X 4 cX5_beats (IF X E Z (mw E A)) Q .int r0 (V0, L0)) : ∀ (V : Nat → Nat → Int32) (L : Nat → Int64) (x1 : Int32) (x2 : Int32), f_X5_beats V L x1 x2 = some (r0, V0, L0) → Wm X 4 (IF X E Z (mw E A)) Q 0 [(0, .ref (A 0)), (1, .int x1), (2, .int x2)] [] (V, L) := by
  intro V L x1 x2 hf
  rw [f_X5_beats] at hf
  refine r_aload_n C dX5_beats_0 0 rfl rfl ?_
  refine r_iload_n C dX5_beats_1 1 rfl rfl ?_
  refine f_callI C K cal_RX5_207 ⟨rfl, rfl, Nat.le_of_ble_eq_true rfl, Nat.le_of_ble_eq_true rfl⟩ (t_X5_isVerse _ x1) (mw_o0 E A _ _) rfl (mw_fst _ _ _ _ _ _) rfl (rest := []) rfl (Nat.le_of_ble_eq_true rfl) dX5_beats_2 ?_
  refine r_if_ne C (tgt := 11) dX5_beats_5 rfl hf (fun hf => ?_) (fun hf => ?_)
  · refine r_iload_n C dX5_beats_11 2 rfl rfl ?_
    refine r_iconst C dX5_beats_12 ki_1 ?_
    refine r_bipush C dX5_beats_13 kb_99 ?_
    refine r_callP C cas_RX5_77 ⟨rfl, rfl, Nat.le_of_ble_eq_true rfl, Nat.le_of_ble_eq_true rfl⟩ (t_X5_within _ x2 (1 : Int32) (99 : Int32)) rfl (rest := []) rfl (Nat.le_of_ble_eq_true rfl) dX5_beats_15 ?_
    refine r_if_ne C (tgt := 24) dX5_beats_18 rfl hf (fun hf => ?_) (fun hf => ?_)
    · refine r_aload_n C dX5_beats_24 0 rfl rfl ?_
      refine g_RX5_7_0 C K dX5_beats_25 ?_
      refine r_iload_n C dX5_beats_28 1 rfl rfl ?_
      refine s_iald C K (mw_a3 E A _ _) dX5_beats_29 hf (fun hf => ?_)
      refine r_istore_n C dX5_beats_30 rfl (Nat.le_of_ble_eq_true rfl) (lv2 := [(3, .int (V 3 x1.toNatClampNeg)), (0, .ref (A 0)), (1, .int x1), (2, .int x2)]) rfl ?_
      refine r_aload_n C dX5_beats_31 1 rfl rfl ?_
      refine g_RX5_7_0 C K dX5_beats_32 ?_
      refine r_iload_n C dX5_beats_35 2 rfl rfl ?_
      refine r_iload_n C dX5_beats_36 3 rfl rfl ?_
      refine s_iast C K (mw_a3 E A _ _) (fun z => mw_s3 E A _ _ _) dX5_beats_37 hf (fun V_1 hf => ?_)
      refine r_iload_n C dX5_beats_38 0 rfl rfl ?_
      exact ri_OW hret hf dX5_beats_39 rfl
    · refine r_bipush C dX5_beats_21 kb_m102 ?_
      exact ri_OW hret hf dX5_beats_23 rfl
  · refine r_bipush C dX5_beats_8 kb_m101 ?_
    exact ri_OW hret hf dX5_beats_10 rfl
theorem t_X5_beats (l : Launch) {E : EvT} {A : Nat → Nat} {V : Nat → Nat → Int32} {L : Nat → Int64} (x1 : Int32) (x2 : Int32) {r0 : Int32} {V0 : Nat → Nat → Int32} {L0 : Nat → Int64} (hq : f_X5_beats V L x1 x2 = some (r0, V0, L0)) : KI l yX5_beats (.code yX5_beats cX5_beats 4 (some .int) :: wA) rm_X5_beats E (mw E A V L) (mw E A V0 L0) [.ref (A 0), .int x1, .int x2] r0 := by
  refine ent_I (own := RX5) (ty := .int) (lv0 := [(0, .ref (A 0)), (1, .int x1), (2, .int x2)]) (by decide) rfl rfl (Nat.le_of_ble_eq_true rfl) rfl (mw_fst _ _ _ _ _ _) ?_
  intro X Z Q hl C K hret
  exact w_X5_beats_0 C K hret V L x1 x2 hq
set_option maxRecDepth 100000 in
theorem w_X5_be_0 {X : XT} {E : EvT} {Z : Nat → Prop} {Q : State → Prop} {A : Nat → Nat} (C : Cx X (.code yX5_be cX5_be 4 (some .int)) cX5_be 4 RX5 rm_X5_be.frames rm_X5_be.locals) (K : Ck X E Z) {r0 : Int32} {V0 : Nat → Nat → Int32} {L0 : Nat → Int64} (hret : RI X 4 cX5_be (IF X E Z (mw E A)) Q .int r0 (V0, L0)) : ∀ (V : Nat → Nat → Int32) (L : Nat → Int64) (x1 : Int32) (x2 : Int32), f_X5_be V L x1 x2 = some (r0, V0, L0) → Wm X 4 (IF X E Z (mw E A)) Q 0 [(0, .ref (A 0)), (1, .int x1), (2, .int x2)] [] (V, L) := by
  intro V L x1 x2 hf
  rw [f_X5_be] at hf
  refine r_aload_n C dX5_be_0 0 rfl rfl ?_
  refine r_iload_n C dX5_be_1 1 rfl rfl ?_
  refine f_callI C K cal_RX5_197 ⟨rfl, rfl, Nat.le_of_ble_eq_true rfl, Nat.le_of_ble_eq_true rfl⟩ (t_X5_isChild _ x1) (mw_o0 E A _ _) rfl (mw_fst _ _ _ _ _ _) rfl (rest := []) rfl (Nat.le_of_ble_eq_true rfl) dX5_be_2 ?_
  refine r_if_ne C (tgt := 11) dX5_be_5 rfl hf (fun hf => ?_) (fun hf => ?_)
  · refine r_iload_n C dX5_be_11 2 rfl rfl ?_
    refine r_iconst C dX5_be_12 ki_0 ?_
    refine r_iconst C dX5_be_13 ki_4 ?_
    refine r_callP C cas_RX5_77 ⟨rfl, rfl, Nat.le_of_ble_eq_true rfl, Nat.le_of_ble_eq_true rfl⟩ (t_X5_within _ x2 (0 : Int32) (4 : Int32)) rfl (rest := []) rfl (Nat.le_of_ble_eq_true rfl) dX5_be_14 ?_
    refine r_if_ne C (tgt := 23) dX5_be_17 rfl hf (fun hf => ?_) (fun hf => ?_)
    · refine r_aload_n C dX5_be_23 0 rfl rfl ?_
      refine g_RX5_13_0 C K dX5_be_24 ?_
      refine r_iload_n C dX5_be_27 1 rfl rfl ?_
      refine s_iald C K (mw_a4 E A _ _) dX5_be_28 hf (fun hf => ?_)
      refine r_istore_n C dX5_be_29 rfl (Nat.le_of_ble_eq_true rfl) (lv2 := [(3, .int (V 4 x1.toNatClampNeg)), (0, .ref (A 0)), (1, .int x1), (2, .int x2)]) rfl ?_
      refine r_aload_n C dX5_be_30 1 rfl rfl ?_
      refine g_RX5_13_0 C K dX5_be_31 ?_
      refine r_iload_n C dX5_be_34 2 rfl rfl ?_
      refine r_iload_n C dX5_be_35 3 rfl rfl ?_
      refine s_iast C K (mw_a4 E A _ _) (fun z => mw_s4 E A _ _ _) dX5_be_36 hf (fun V_1 hf => ?_)
      refine r_aload_n C dX5_be_37 1 rfl rfl ?_
      refine r_dup C dX5_be_38 rfl ?_
      refine g_RX5_122_0 C K dX5_be_39 ?_
      refine r_iconst C dX5_be_42 ki_1 ?_
      refine r_iload_n C dX5_be_43 2 rfl rfl ?_
      refine p_ishl C dX5_be_44 ?_
      refine r_iconst C dX5_be_45 ki_m1 ?_
      refine r_ixor C dX5_be_46 ?_
      refine r_iand C dX5_be_47 ?_
      refine p_RX5_122_0 C K dX5_be_48 hf (fun V_2 hf => ?_)
      refine r_iload_n C dX5_be_51 0 rfl rfl ?_
      exact ri_OW hret hf dX5_be_52 rfl
    · refine r_bipush C dX5_be_20 kb_m102 ?_
      exact ri_OW hret hf dX5_be_22 rfl
  · refine r_bipush C dX5_be_8 kb_m101 ?_
    exact ri_OW hret hf dX5_be_10 rfl
theorem t_X5_be (l : Launch) {E : EvT} {A : Nat → Nat} {V : Nat → Nat → Int32} {L : Nat → Int64} (x1 : Int32) (x2 : Int32) {r0 : Int32} {V0 : Nat → Nat → Int32} {L0 : Nat → Int64} (hq : f_X5_be V L x1 x2 = some (r0, V0, L0)) : KI l yX5_be (.code yX5_be cX5_be 4 (some .int) :: wA) rm_X5_be E (mw E A V L) (mw E A V0 L0) [.ref (A 0), .int x1, .int x2] r0 := by
  refine ent_I (own := RX5) (ty := .int) (lv0 := [(0, .ref (A 0)), (1, .int x1), (2, .int x2)]) (by decide) rfl rfl (Nat.le_of_ble_eq_true rfl) rfl (mw_fst _ _ _ _ _ _) ?_
  intro X Z Q hl C K hret
  exact w_X5_be_0 C K hret V L x1 x2 hq
set_option maxRecDepth 100000 in
theorem w_X5_areBeats_0 {X : XT} {Q : State → Prop} (C : Cx X (.code yX5_areBeats cX5_areBeats 1 (some .boolean)) cX5_areBeats 1 RX5 rm_X5_areBeats.frames rm_X5_areBeats.locals) {r0 : Int32} (hret : RI X 1 cX5_areBeats (IP X) Q .boolean r0 ()) : ∀ (x0 : Int32), f_X5_areBeats x0 = r0 → Wm X 1 (IP X) Q 0 [(0, .int x0)] [] () := by
  intro x0 hf
  rw [f_X5_areBeats] at hf
  refine r_iload_n C dX5_areBeats_0 0 rfl rfl ?_
  refine r_iconst C dX5_areBeats_1 ki_1 ?_
  refine r_bipush C dX5_areBeats_2 kb_99 ?_
  refine r_callP C cas_RX5_77 ⟨rfl, rfl, Nat.le_of_ble_eq_true rfl, Nat.le_of_ble_eq_true rfl⟩ (t_X5_within _ x0 (1 : Int32) (99 : Int32)) rfl (rest := []) rfl (Nat.le_of_ble_eq_true rfl) dX5_areBeats_4 ?_
  exact ri_T hret hf dX5_areBeats_7 (isz_nar (z_X5_within _ _ _))
theorem t_X5_areBeats (l : Launch) (x0 : Int32) : KP l yX5_areBeats (.code yX5_areBeats cX5_areBeats 1 (some .boolean) :: wA) rm_X5_areBeats [.int x0] (f_X5_areBeats x0) := by
  refine ent_P (own := RX5) (ty := .boolean) (lv0 := [(0, .int x0)]) (by decide) rfl rfl (Nat.le_of_ble_eq_true rfl) rfl ?_
  intro X Q hl C hret
  exact w_X5_areBeats_0 C hret x0 rfl
set_option maxRecDepth 100000 in
theorem w_X5_last_0 {X : XT} {E : EvT} {Z : Nat → Prop} {Q : State → Prop} {A : Nat → Nat} (C : Cx X (.code yX5_last cX5_last 2 (some .int)) cX5_last 2 RX5 rm_X5_last.frames rm_X5_last.locals) (K : Ck X E Z) {r0 : Int32} {V0 : Nat → Nat → Int32} {L0 : Nat → Int64} (hret : RI X 2 cX5_last (IF X E Z (mw E A)) Q .int r0 (V0, L0)) : ∀ (V : Nat → Nat → Int32) (L : Nat → Int64) (x1 : Int32), f_X5_last V L x1 = some (r0, V0, L0) → Wm X 2 (IF X E Z (mw E A)) Q 0 [(0, .ref (A 0)), (1, .int x1)] [] (V, L) := by
  intro V L x1 hf
  rw [f_X5_last] at hf
  refine r_iload_n C dX5_last_0 1 rfl rfl ?_
  refine r_callP C cas_RX5_213 ⟨rfl, rfl, Nat.le_of_ble_eq_true rfl, Nat.le_of_ble_eq_true rfl⟩ (t_X5_areBeats _ x1) rfl (rest := []) rfl (Nat.le_of_ble_eq_true rfl) dX5_last_1 ?_
  refine r_if_ne C (tgt := 10) dX5_last_4 rfl hf (fun hf => ?_) (fun hf => ?_)
  · refine r_aload_n C dX5_last_10 0 rfl rfl ?_
    refine g_RX5_116_0 C K dX5_last_11 ?_
    refine r_if_ne C (tgt := 22) dX5_last_14 rfl hf (fun hf => ?_) (fun hf => ?_)
    · refine r_aload_n C dX5_last_22 0 rfl rfl ?_
      refine r_iload_n C dX5_last_23 1 rfl rfl ?_
      refine bd3_e hf (fun r_1 V_2 L_3 hq hf => ?_)
      refine f_callI C K cal_RX5_191 ⟨rfl, rfl, Nat.le_of_ble_eq_true rfl, Nat.le_of_ble_eq_true rfl⟩ (t_X5_lastBy _ x1 hq) (mw_o0 E A _ _) rfl (mw_fst _ _ _ _ _ _) rfl (rest := []) rfl (Nat.le_of_ble_eq_true rfl) dX5_last_24 ?_
      exact ri_OW hret hf dX5_last_27 rfl
    · refine r_bipush C dX5_last_17 kb_m103 ?_
      refine r_goto C (tgt := 27) dX5_last_19 rfl ?_
      exact ri_OW hret hf dX5_last_27 rfl
  · refine r_bipush C dX5_last_7 kb_m102 ?_
    exact ri_OW hret hf dX5_last_9 rfl
theorem t_X5_last (l : Launch) {E : EvT} {A : Nat → Nat} {V : Nat → Nat → Int32} {L : Nat → Int64} (x1 : Int32) {r0 : Int32} {V0 : Nat → Nat → Int32} {L0 : Nat → Int64} (hq : f_X5_last V L x1 = some (r0, V0, L0)) : KI l yX5_last (.code yX5_last cX5_last 2 (some .int) :: wA) rm_X5_last E (mw E A V L) (mw E A V0 L0) [.ref (A 0), .int x1] r0 := by
  refine ent_I (own := RX5) (ty := .int) (lv0 := [(0, .ref (A 0)), (1, .int x1)]) (by decide) rfl rfl (Nat.le_of_ble_eq_true rfl) rfl (mw_fst _ _ _ _ _ _) ?_
  intro X Z Q hl C K hret
  exact w_X5_last_0 C K hret V L x1 hq
set_option maxRecDepth 100000 in
theorem w_X5_beginNow_56 {X : XT} {E : EvT} {Z : Nat → Prop} {Q : State → Prop} {A : Nat → Nat} (C : Cx X (.code yX5_beginNow cX5_beginNow 5 (some .int)) cX5_beginNow 5 RX5 rm_X5_beginNow.frames rm_X5_beginNow.locals) (K : Ck X E Z) {r0 : Int32} {V0 : Nat → Nat → Int32} {L0 : Nat → Int64} (hret : RI X 5 cX5_beginNow (IF X E Z (mw E A)) Q .int r0 (V0, L0)) {k5 : (Nat → Nat → Int32) → (Nat → Int64) → Int32 → Int32 → Option (Int32 × (Nat → Nat → Int32) × (Nat → Int64))} {x1 : Int32} {x2 : Int32} (hk5 : ∀ (V : Nat → Nat → Int32) (L : Nat → Int64) (x3 : Int32) (x4 : Int32), k5 V L x3 x4 = some (r0, V0, L0) → Wm X 5 (IF X E Z (mw E A)) Q 5 [(0, .ref (A 0)), (1, .int x1), (2, .int x2), (3, .int x3), (4, .int x4)] [] (V, L)) : ∀ (V : Nat → Nat → Int32) (L : Nat → Int64) (x3 : Int32) (x4 : Int32), f_X5_beginNow_56 k5 V L x1 x2 x3 x4 = some (r0, V0, L0) → Wm X 5 (IF X E Z (mw E A)) Q 56 [(0, .ref (A 0)), (1, .int x1), (2, .int x2), (3, .int x3), (4, .int x4)] [] (V, L) := by
  intro V L x3 x4 hf
  rw [f_X5_beginNow_56] at hf
  refine r_aload_n C dX5_beginNow_56 0 rfl rfl ?_
  refine bd2_e hf (fun V_1 L_2 hq hf => ?_)
  refine f_callV C K cal_RX5_188 ⟨rfl, rfl, Nat.le_of_ble_eq_true rfl, Nat.le_of_ble_eq_true rfl⟩ (t_X5_load _ hq) (mw_o0 E A _ _) rfl (mw_fst _ _ _ _ _ _) rfl (rest := []) rfl (Nat.le_of_ble_eq_true rfl) dX5_beginNow_57 ?_
  refine r_iinc C dX5_beginNow_60 4 rfl (kn_1 _) (Nat.le_of_ble_eq_true rfl) (lv2 := [(4, .int (x4 + 1)), (0, .ref (A 0)), (1, .int x1), (2, .int x2), (3, .int x3)]) rfl ?_
  refine r_goto C (tgt := 5) dX5_beginNow_63 rfl ?_
  exact r_sub [1, 2, 3, 4, 0] rfl (hk5 V_1 L_2 x3 (x4 + 1) hf)
set_option maxRecDepth 100000 in
theorem w_X5_beginNow_5 {X : XT} {E : EvT} {Z : Nat → Prop} {Q : State → Prop} {A : Nat → Nat} (C : Cx X (.code yX5_beginNow cX5_beginNow 5 (some .int)) cX5_beginNow 5 RX5 rm_X5_beginNow.frames rm_X5_beginNow.locals) (K : Ck X E Z) {r0 : Int32} {V0 : Nat → Nat → Int32} {L0 : Nat → Int64} (hret : RI X 5 cX5_beginNow (IF X E Z (mw E A)) Q .int r0 (V0, L0)) (x1 : Int32) (x2 : Int32) : ∀ (n : Nat) (V : Nat → Nat → Int32) (L : Nat → Int64) (x3 : Int32) (x4 : Int32), f_X5_beginNow_5 x1 x2 n V L x3 x4 = some (r0, V0, L0) → Wm X 5 (IF X E Z (mw E A)) Q 5 [(0, .ref (A 0)), (1, .int x1), (2, .int x2), (3, .int x3), (4, .int x4)] [] (V, L) := by
  intro n
  induction n with
  | zero =>
    intro V L x3 x4 hf
    exact none_e hf
  | succ n ih =>
    intro V L x3 x4 hf
    rw [f_X5_beginNow_5] at hf
    refine r_iload C dX5_beginNow_5 4 rfl ?_
    refine r_aload_n C dX5_beginNow_7 0 rfl rfl ?_
    refine g_RX5_116_0 C K dX5_beginNow_8 ?_
    refine r_icmp_ge C (tgt := 66) dX5_beginNow_11 rfl hf (fun hf => ?_) (fun hf => ?_)
    · refine r_iload_n C dX5_beginNow_66 3 rfl rfl ?_
      exact ri_OW hret hf dX5_beginNow_67 rfl
    · refine r_aload_n C dX5_beginNow_14 0 rfl rfl ?_
      refine g_RX5_119_0 C K dX5_beginNow_15 ?_
      refine r_iload C dX5_beginNow_18 4 rfl ?_
      refine r_callP C cas_RX5_140 ⟨rfl, rfl, Nat.le_of_ble_eq_true rfl, Nat.le_of_ble_eq_true rfl⟩ (t_X5_isIn _ (V 0 5) x4) rfl (rest := []) rfl (Nat.le_of_ble_eq_true rfl) dX5_beginNow_20 ?_
      refine r_if_eq C (tgt := 60) dX5_beginNow_23 rfl hf (fun hf => ?_) (fun hf => ?_)
      · refine r_iinc C dX5_beginNow_60 4 rfl (kn_1 _) (Nat.le_of_ble_eq_true rfl) (lv2 := [(4, .int (x4 + 1)), (0, .ref (A 0)), (1, .int x1), (2, .int x2), (3, .int x3)]) rfl ?_
        refine r_goto C (tgt := 5) dX5_beginNow_63 rfl ?_
        exact r_sub [1, 2, 3, 4, 0] rfl (ih V L x3 (x4 + 1) hf)
      · refine r_aload_n C dX5_beginNow_26 0 rfl rfl ?_
        refine bd2_e hf (fun V_1 L_2 hq hf => ?_)
        refine f_callV C K cal_RX5_182 ⟨rfl, rfl, Nat.le_of_ble_eq_true rfl, Nat.le_of_ble_eq_true rfl⟩ (t_X5_save _ hq) (mw_o0 E A _ _) rfl (mw_fst _ _ _ _ _ _) rfl (rest := []) rfl (Nat.le_of_ble_eq_true rfl) dX5_beginNow_27 ?_
        refine r_aload_n C dX5_beginNow_30 0 rfl rfl ?_
        refine r_iload C dX5_beginNow_31 4 rfl ?_
        refine p_RX5_125_0 C K dX5_beginNow_33 hf (fun V_3 hf => ?_)
        refine r_iload_n C dX5_beginNow_36 3 rfl rfl ?_
        refine r_aload_n C dX5_beginNow_37 0 rfl rfl ?_
        refine r_iload_n C dX5_beginNow_38 2 rfl rfl ?_
        refine bd3_e hf (fun r_4 V_5 L_6 hq hf => ?_)
        refine f_callI C K cal_RX5_185 ⟨rfl, rfl, Nat.le_of_ble_eq_true rfl, Nat.le_of_ble_eq_true rfl⟩ (t_X5_lastNow _ x2 hq) (mw_o0 E A _ _) rfl (mw_fst _ _ _ _ _ _) rfl (rest := [.int x3]) rfl (Nat.le_of_ble_eq_true rfl) dX5_beginNow_39 ?_
        refine r_iload_n C dX5_beginNow_42 1 rfl rfl ?_
        refine r_icmp_ne C (tgt := 53) dX5_beginNow_43 rfl hf (fun hf => ?_) (fun hf => ?_)
        · refine r_iconst C dX5_beginNow_53 ki_0 ?_
          refine r_ior C dX5_beginNow_54 ?_
          refine r_istore_n C dX5_beginNow_55 rfl (Nat.le_of_ble_eq_true rfl) (lv2 := [(3, .int (x3 ||| (0 : Int32))), (0, .ref (A 0)), (1, .int x1), (2, .int x2), (4, .int x4)]) rfl ?_
          exact r_sub [1, 2, 3, 0, 4] rfl (w_X5_beginNow_56 C K hret ih V_5 L_6 (x3 ||| (0 : Int32)) x4 hf)
        · refine r_iconst C dX5_beginNow_46 ki_1 ?_
          refine r_iload C dX5_beginNow_47 4 rfl ?_
          refine p_ishl C dX5_beginNow_49 ?_
          refine r_goto C (tgt := 54) dX5_beginNow_50 rfl ?_
          refine r_ior C dX5_beginNow_54 ?_
          refine r_istore_n C dX5_beginNow_55 rfl (Nat.le_of_ble_eq_true rfl) (lv2 := [(3, .int (x3 ||| (ishl (1 : Int32) x4))), (0, .ref (A 0)), (1, .int x1), (2, .int x2), (4, .int x4)]) rfl ?_
          exact r_sub [1, 2, 3, 0, 4] rfl (w_X5_beginNow_56 C K hret ih V_5 L_6 (x3 ||| (ishl (1 : Int32) x4)) x4 hf)
set_option maxRecDepth 100000 in
theorem w_X5_beginNow_0 {X : XT} {E : EvT} {Z : Nat → Prop} {Q : State → Prop} {A : Nat → Nat} (C : Cx X (.code yX5_beginNow cX5_beginNow 5 (some .int)) cX5_beginNow 5 RX5 rm_X5_beginNow.frames rm_X5_beginNow.locals) (K : Ck X E Z) {r0 : Int32} {V0 : Nat → Nat → Int32} {L0 : Nat → Int64} (hret : RI X 5 cX5_beginNow (IF X E Z (mw E A)) Q .int r0 (V0, L0)) : ∀ (V : Nat → Nat → Int32) (L : Nat → Int64) (x1 : Int32) (x2 : Int32), f_X5_beginNow V L x1 x2 = some (r0, V0, L0) → Wm X 5 (IF X E Z (mw E A)) Q 0 [(0, .ref (A 0)), (1, .int x1), (2, .int x2)] [] (V, L) := by
  intro V L x1 x2 hf
  rw [f_X5_beginNow] at hf
  refine r_iconst C dX5_beginNow_0 ki_0 ?_
  refine r_istore_n C dX5_beginNow_1 rfl (Nat.le_of_ble_eq_true rfl) (lv2 := [(3, .int (0 : Int32)), (0, .ref (A 0)), (1, .int x1), (2, .int x2)]) rfl ?_
  refine r_iconst C dX5_beginNow_2 ki_0 ?_
  refine r_istore C dX5_beginNow_3 (Nat.le_of_ble_eq_true rfl) (lv2 := [(4, .int (0 : Int32)), (3, .int (0 : Int32)), (0, .ref (A 0)), (1, .int x1), (2, .int x2)]) rfl ?_
  exact r_sub [2, 3, 4, 1, 0] rfl (w_X5_beginNow_5 C K hret x1 x2 20000 V L (0 : Int32) (0 : Int32) hf)
theorem t_X5_beginNow (l : Launch) {E : EvT} {A : Nat → Nat} {V : Nat → Nat → Int32} {L : Nat → Int64} (x1 : Int32) (x2 : Int32) {r0 : Int32} {V0 : Nat → Nat → Int32} {L0 : Nat → Int64} (hq : f_X5_beginNow V L x1 x2 = some (r0, V0, L0)) : KI l yX5_beginNow (.code yX5_beginNow cX5_beginNow 5 (some .int) :: wA) rm_X5_beginNow E (mw E A V L) (mw E A V0 L0) [.ref (A 0), .int x1, .int x2] r0 := by
  refine ent_I (own := RX5) (ty := .int) (lv0 := [(0, .ref (A 0)), (1, .int x1), (2, .int x2)]) (by decide) rfl rfl (Nat.le_of_ble_eq_true rfl) rfl (mw_fst _ _ _ _ _ _) ?_
  intro X Z Q hl C K hret
  exact w_X5_beginNow_0 C K hret V L x1 x2 hq
set_option maxRecDepth 100000 in
theorem w_X5_begin_0 {X : XT} {E : EvT} {Z : Nat → Prop} {Q : State → Prop} {A : Nat → Nat} (C : Cx X (.code yX5_begin cX5_begin 3 (some .int)) cX5_begin 3 RX5 rm_X5_begin.frames rm_X5_begin.locals) (K : Ck X E Z) {r0 : Int32} {V0 : Nat → Nat → Int32} {L0 : Nat → Int64} (hret : RI X 3 cX5_begin (IF X E Z (mw E A)) Q .int r0 (V0, L0)) : ∀ (V : Nat → Nat → Int32) (L : Nat → Int64) (x1 : Int32) (x2 : Int32), f_X5_begin V L x1 x2 = some (r0, V0, L0) → Wm X 3 (IF X E Z (mw E A)) Q 0 [(0, .ref (A 0)), (1, .int x1), (2, .int x2)] [] (V, L) := by
  intro V L x1 x2 hf
  rw [f_X5_begin] at hf
  refine r_aload_n C dX5_begin_0 0 rfl rfl ?_
  refine r_iload_n C dX5_begin_1 1 rfl rfl ?_
  refine f_callI C K cal_RX5_197 ⟨rfl, rfl, Nat.le_of_ble_eq_true rfl, Nat.le_of_ble_eq_true rfl⟩ (t_X5_isChild _ x1) (mw_o0 E A _ _) rfl (mw_fst _ _ _ _ _ _) rfl (rest := []) rfl (Nat.le_of_ble_eq_true rfl) dX5_begin_2 ?_
  refine r_if_ne C (tgt := 11) dX5_begin_5 rfl hf (fun hf => ?_) (fun hf => ?_)
  · refine r_iload_n C dX5_begin_11 2 rfl rfl ?_
    refine r_callP C cas_RX5_213 ⟨rfl, rfl, Nat.le_of_ble_eq_true rfl, Nat.le_of_ble_eq_true rfl⟩ (t_X5_areBeats _ x2) rfl (rest := []) rfl (Nat.le_of_ble_eq_true rfl) dX5_begin_12 ?_
    refine r_if_eq C (tgt := 27) dX5_begin_15 rfl hf (fun hf => ?_) (fun hf => ?_)
    · refine r_bipush C dX5_begin_27 kb_m102 ?_
      exact ri_OW hret hf dX5_begin_29 rfl
    · refine r_aload_n C dX5_begin_18 0 rfl rfl ?_
      refine r_iload_n C dX5_begin_19 1 rfl rfl ?_
      refine r_iload_n C dX5_begin_20 2 rfl rfl ?_
      refine bd3_e hf (fun r_1 V_2 L_3 hq hf => ?_)
      refine f_callI C K cal_RX5_216 ⟨rfl, rfl, Nat.le_of_ble_eq_true rfl, Nat.le_of_ble_eq_true rfl⟩ (t_X5_beginNow _ x1 x2 hq) (mw_o0 E A _ _) rfl (mw_fst _ _ _ _ _ _) rfl (rest := []) rfl (Nat.le_of_ble_eq_true rfl) dX5_begin_21 ?_
      refine r_goto C (tgt := 29) dX5_begin_24 rfl ?_
      exact ri_OW hret hf dX5_begin_29 rfl
  · refine r_bipush C dX5_begin_8 kb_m101 ?_
    exact ri_OW hret hf dX5_begin_10 rfl
theorem t_X5_begin (l : Launch) {E : EvT} {A : Nat → Nat} {V : Nat → Nat → Int32} {L : Nat → Int64} (x1 : Int32) (x2 : Int32) {r0 : Int32} {V0 : Nat → Nat → Int32} {L0 : Nat → Int64} (hq : f_X5_begin V L x1 x2 = some (r0, V0, L0)) : KI l yX5_begin (.code yX5_begin cX5_begin 3 (some .int) :: wA) rm_X5_begin E (mw E A V L) (mw E A V0 L0) [.ref (A 0), .int x1, .int x2] r0 := by
  refine ent_I (own := RX5) (ty := .int) (lv0 := [(0, .ref (A 0)), (1, .int x1), (2, .int x2)]) (by decide) rfl rfl (Nat.le_of_ble_eq_true rfl) rfl (mw_fst _ _ _ _ _ _) ?_
  intro X Z Q hl C K hret
  exact w_X5_begin_0 C K hret V L x1 x2 hq
set_option maxRecDepth 100000 in
theorem w_X5_opened_0 {X : XT} {Q : State → Prop} (C : Cx X (.code yX5_opened cX5_opened 3 (some .int)) cX5_opened 3 RX5 rm_X5_opened.frames rm_X5_opened.locals) {r0 : Int32} (hret : RI X 3 cX5_opened (IP X) Q .int r0 ()) : ∀ (x0 : Int32) (x1 : Int32), f_X5_opened x0 x1 = r0 → Wm X 3 (IP X) Q 0 [(0, .int x0), (1, .int x1)] [] () := by
  intro x0 x1 hf
  rw [f_X5_opened] at hf
  refine r_iconst C dX5_opened_0 ki_1 ?_
  refine r_iload_n C dX5_opened_1 1 rfl rfl ?_
  refine p_ishl C dX5_opened_2 ?_
  refine r_iconst C dX5_opened_3 ki_1 ?_
  refine r_isub C dX5_opened_4 ?_
  refine b_int hf (fun t_1 hf => ?_)
  refine r_istore_n C dX5_opened_5 rfl (Nat.le_of_ble_eq_true rfl) (lv2 := [(2, .int t_1), (0, .int x0), (1, .int x1)]) rfl ?_
  refine r_iload_n C dX5_opened_6 1 rfl rfl ?_
  refine r_iload_n C dX5_opened_7 0 rfl rfl ?_
  refine r_iand C dX5_opened_8 ?_
  refine r_iload_n C dX5_opened_9 1 rfl rfl ?_
  refine r_iload_n C dX5_opened_10 0 rfl rfl ?_
  refine r_iconst C dX5_opened_11 ki_m1 ?_
  refine r_ixor C dX5_opened_12 ?_
  refine r_iand C dX5_opened_13 ?_
  refine r_iconst C dX5_opened_14 ki_1 ?_
  refine p_ishl C dX5_opened_15 ?_
  refine r_ior C dX5_opened_16 ?_
  exact ri_T hret hf dX5_opened_17 rfl
theorem t_X5_opened (l : Launch) (x0 : Int32) (x1 : Int32) : KP l yX5_opened (.code yX5_opened cX5_opened 3 (some .int) :: wA) rm_X5_opened [.int x0, .int x1] (f_X5_opened x0 x1) := by
  refine ent_P (own := RX5) (ty := .int) (lv0 := [(0, .int x0), (1, .int x1)]) (by decide) rfl rfl (Nat.le_of_ble_eq_true rfl) rfl ?_
  intro X Q hl C hret
  exact w_X5_opened_0 C hret x0 x1 rfl
set_option maxRecDepth 100000 in
theorem w_X5_standNow_160 {X : XT} {E : EvT} {Z : Nat → Prop} {Q : State → Prop} {A : Nat → Nat} (C : Cx X (.code yX5_standNow cX5_standNow 6 (some .int)) cX5_standNow 6 RX5 rm_X5_standNow.frames rm_X5_standNow.locals) (K : Ck X E Z) {r0 : Int32} {V0 : Nat → Nat → Int32} {L0 : Nat → Int64} (hret : RI X 6 cX5_standNow (IF X E Z (mw E A)) Q .int r0 (V0, L0)) {k5 : (Nat → Nat → Int32) → (Nat → Int64) → Int32 → Int32 → Option (Int32 × (Nat → Nat → Int32) × (Nat → Int64))} {x1 : Int32} {x2 : Int32} (hk5 : ∀ (V : Nat → Nat → Int32) (L : Nat → Int64) (x3 : Int32) (x4 : Int32), k5 V L x3 x4 = some (r0, V0, L0) → Wm X 6 (IF X E Z (mw E A)) Q 5 [(0, .ref (A 0)), (1, .int x1), (2, .int x2), (3, .int x3), (4, .int x4)] [] (V, L)) (x3 : Int32) (x4 : Int32) : ∀ (n : Nat) (V : Nat → Nat → Int32) (L : Nat → Int64) (x5 : Int32), f_X5_standNow_160 k5 x1 x2 x3 x4 n V L x5 = some (r0, V0, L0) → Wm X 6 (IF X E Z (mw E A)) Q 160 [(0, .ref (A 0)), (1, .int x1), (2, .int x2), (3, .int x3), (4, .int x4), (5, .int x5)] [] (V, L) := by
  intro n
  induction n with
  | zero =>
    intro V L x5 hf
    exact none_e hf
  | succ n ih =>
    intro V L x5 hf
    rw [f_X5_standNow_160] at hf
    refine r_iload C dX5_standNow_160 5 rfl ?_
    refine r_aload_n C dX5_standNow_162 0 rfl rfl ?_
    refine g_RX5_116_0 C K dX5_standNow_163 ?_
    refine r_icmp_ge C (tgt := 191) dX5_standNow_166 rfl hf (fun hf => ?_) (fun hf => ?_)
    · refine r_aload_n C dX5_standNow_191 0 rfl rfl ?_
      refine bd2_e hf (fun V_1 L_2 hq hf => ?_)
      refine f_callV C K cal_RX5_188 ⟨rfl, rfl, Nat.le_of_ble_eq_true rfl, Nat.le_of_ble_eq_true rfl⟩ (t_X5_load _ hq) (mw_o0 E A _ _) rfl (mw_fst _ _ _ _ _ _) rfl (rest := []) rfl (Nat.le_of_ble_eq_true rfl) dX5_standNow_192 ?_
      refine r_iinc C dX5_standNow_195 4 rfl (kn_1 _) (Nat.le_of_ble_eq_true rfl) (lv2 := [(4, .int (x4 + 1)), (0, .ref (A 0)), (1, .int x1), (2, .int x2), (3, .int x3), (5, .int x5)]) rfl ?_
      refine r_goto C (tgt := 5) dX5_standNow_198 rfl ?_
      exact r_sub [1, 2, 3, 4, 0] rfl (hk5 V_1 L_2 x3 (x4 + 1) hf)
    · refine r_aload_n C dX5_standNow_169 0 rfl rfl ?_
      refine g_RX5_13_0 C K dX5_standNow_170 ?_
      refine r_iload C dX5_standNow_173 5 rfl ?_
      refine r_aload_n C dX5_standNow_175 0 rfl rfl ?_
      refine g_RX5_13_0 C K dX5_standNow_176 ?_
      refine r_iload C dX5_standNow_179 5 rfl ?_
      refine r_iconst C dX5_standNow_181 ki_1 ?_
      refine r_iadd C dX5_standNow_182 ?_
      refine s_iald C K (mw_a4 E A _ _) dX5_standNow_183 hf (fun hf => ?_)
      refine s_iast C K (mw_a4 E A _ _) (fun z => mw_s4 E A _ _ _) dX5_standNow_184 hf (fun V_3 hf => ?_)
      refine r_iinc C dX5_standNow_185 5 rfl (kn_1 _) (Nat.le_of_ble_eq_true rfl) (lv2 := [(5, .int (x5 + 1)), (0, .ref (A 0)), (1, .int x1), (2, .int x2), (3, .int x3), (4, .int x4)]) rfl ?_
      refine r_goto C (tgt := 160) dX5_standNow_188 rfl ?_
      exact r_sub [1, 2, 3, 4, 5, 0] rfl (ih V_3 L (x5 + 1) hf)
set_option maxRecDepth 100000 in
theorem w_X5_standNow_146 {X : XT} {E : EvT} {Z : Nat → Prop} {Q : State → Prop} {A : Nat → Nat} (C : Cx X (.code yX5_standNow cX5_standNow 6 (some .int)) cX5_standNow 6 RX5 rm_X5_standNow.frames rm_X5_standNow.locals) (K : Ck X E Z) {r0 : Int32} {V0 : Nat → Nat → Int32} {L0 : Nat → Int64} (hret : RI X 6 cX5_standNow (IF X E Z (mw E A)) Q .int r0 (V0, L0)) {k5 : (Nat → Nat → Int32) → (Nat → Int64) → Int32 → Int32 → Option (Int32 × (Nat → Nat → Int32) × (Nat → Int64))} {x1 : Int32} {x2 : Int32} (hk5 : ∀ (V : Nat → Nat → Int32) (L : Nat → Int64) (x3 : Int32) (x4 : Int32), k5 V L x3 x4 = some (r0, V0, L0) → Wm X 6 (IF X E Z (mw E A)) Q 5 [(0, .ref (A 0)), (1, .int x1), (2, .int x2), (3, .int x3), (4, .int x4)] [] (V, L)) : ∀ (V : Nat → Nat → Int32) (L : Nat → Int64) (x3 : Int32) (x4 : Int32), f_X5_standNow_146 k5 V L x1 x2 x3 x4 = some (r0, V0, L0) → Wm X 6 (IF X E Z (mw E A)) Q 146 [(0, .ref (A 0)), (1, .int x1), (2, .int x2), (3, .int x3), (4, .int x4)] [] (V, L) := by
  intro V L x3 x4 hf
  rw [f_X5_standNow_146] at hf
  refine r_aload_n C dX5_standNow_146 0 rfl rfl ?_
  refine r_dup C dX5_standNow_147 rfl ?_
  refine g_RX5_116_0 C K dX5_standNow_148 ?_
  refine r_iconst C dX5_standNow_151 ki_1 ?_
  refine r_isub C dX5_standNow_152 ?_
  refine p_RX5_116_0 C K dX5_standNow_153 hf (fun V_1 hf => ?_)
  refine r_iload C dX5_standNow_156 4 rfl ?_
  refine r_istore C dX5_standNow_158 (Nat.le_of_ble_eq_true rfl) (lv2 := [(5, .int x4), (0, .ref (A 0)), (1, .int x1), (2, .int x2), (3, .int x3), (4, .int x4)]) rfl ?_
  exact r_sub [1, 2, 3, 4, 5, 0] rfl (w_X5_standNow_160 C K hret hk5 x3 x4 20000 V_1 L x4 hf)
set_option maxRecDepth 100000 in
theorem w_X5_standNow_115 {X : XT} {E : EvT} {Z : Nat → Prop} {Q : State → Prop} {A : Nat → Nat} (C : Cx X (.code yX5_standNow cX5_standNow 6 (some .int)) cX5_standNow 6 RX5 rm_X5_standNow.frames rm_X5_standNow.locals) (K : Ck X E Z) {r0 : Int32} {V0 : Nat → Nat → Int32} {L0 : Nat → Int64} (hret : RI X 6 cX5_standNow (IF X E Z (mw E A)) Q .int r0 (V0, L0)) {k5 : (Nat → Nat → Int32) → (Nat → Int64) → Int32 → Int32 → Option (Int32 × (Nat → Nat → Int32) × (Nat → Int64))} {x1 : Int32} {x2 : Int32} (hk5 : ∀ (V : Nat → Nat → Int32) (L : Nat → Int64) (x3 : Int32) (x4 : Int32), k5 V L x3 x4 = some (r0, V0, L0) → Wm X 6 (IF X E Z (mw E A)) Q 5 [(0, .ref (A 0)), (1, .int x1), (2, .int x2), (3, .int x3), (4, .int x4)] [] (V, L)) : ∀ (V : Nat → Nat → Int32) (L : Nat → Int64) (x3 : Int32) (x4 : Int32), f_X5_standNow_115 k5 V L x1 x2 x3 x4 = some (r0, V0, L0) → Wm X 6 (IF X E Z (mw E A)) Q 115 [(0, .ref (A 0)), (1, .int x1), (2, .int x2), (3, .int x3), (4, .int x4)] [] (V, L) := by
  intro V L x3 x4 hf
  rw [f_X5_standNow_115] at hf
  refine r_aload_n C dX5_standNow_115 0 rfl rfl ?_
  refine r_dup C dX5_standNow_116 rfl ?_
  refine g_RX5_116_0 C K dX5_standNow_117 ?_
  refine r_iconst C dX5_standNow_120 ki_1 ?_
  refine r_iadd C dX5_standNow_121 ?_
  refine p_RX5_116_0 C K dX5_standNow_122 hf (fun V_1 hf => ?_)
  refine r_iload_n C dX5_standNow_125 3 rfl rfl ?_
  refine r_aload_n C dX5_standNow_126 0 rfl rfl ?_
  refine r_iload_n C dX5_standNow_127 2 rfl rfl ?_
  refine bd3_e hf (fun r_2 V_3 L_4 hq hf => ?_)
  refine f_callI C K cal_RX5_185 ⟨rfl, rfl, Nat.le_of_ble_eq_true rfl, Nat.le_of_ble_eq_true rfl⟩ (t_X5_lastNow _ x2 hq) (mw_o0 E A _ _) rfl (mw_fst _ _ _ _ _ _) rfl (rest := [.int x3]) rfl (Nat.le_of_ble_eq_true rfl) dX5_standNow_128 ?_
  refine r_iload C dX5_standNow_131 4 rfl ?_
  refine r_icmp_ne C (tgt := 143) dX5_standNow_133 rfl hf (fun hf => ?_) (fun hf => ?_)
  · refine r_iconst C dX5_standNow_143 ki_0 ?_
    refine r_ior C dX5_standNow_144 ?_
    refine r_istore_n C dX5_standNow_145 rfl (Nat.le_of_ble_eq_true rfl) (lv2 := [(3, .int (x3 ||| (0 : Int32))), (0, .ref (A 0)), (1, .int x1), (2, .int x2), (4, .int x4)]) rfl ?_
    exact r_sub [1, 2, 3, 0, 4] rfl (w_X5_standNow_146 C K hret hk5 V_3 L_4 (x3 ||| (0 : Int32)) x4 hf)
  · refine r_iconst C dX5_standNow_136 ki_1 ?_
    refine r_iload C dX5_standNow_137 4 rfl ?_
    refine p_ishl C dX5_standNow_139 ?_
    refine r_goto C (tgt := 144) dX5_standNow_140 rfl ?_
    refine r_ior C dX5_standNow_144 ?_
    refine r_istore_n C dX5_standNow_145 rfl (Nat.le_of_ble_eq_true rfl) (lv2 := [(3, .int (x3 ||| (ishl (1 : Int32) x4))), (0, .ref (A 0)), (1, .int x1), (2, .int x2), (4, .int x4)]) rfl ?_
    exact r_sub [1, 2, 3, 0, 4] rfl (w_X5_standNow_146 C K hret hk5 V_3 L_4 (x3 ||| (ishl (1 : Int32) x4)) x4 hf)
set_option maxRecDepth 100000 in
theorem w_X5_standNow_24 {X : XT} {E : EvT} {Z : Nat → Prop} {Q : State → Prop} {A : Nat → Nat} (C : Cx X (.code yX5_standNow cX5_standNow 6 (some .int)) cX5_standNow 6 RX5 rm_X5_standNow.frames rm_X5_standNow.locals) (K : Ck X E Z) {r0 : Int32} {V0 : Nat → Nat → Int32} {L0 : Nat → Int64} (hret : RI X 6 cX5_standNow (IF X E Z (mw E A)) Q .int r0 (V0, L0)) {k5 : (Nat → Nat → Int32) → (Nat → Int64) → Int32 → Int32 → Option (Int32 × (Nat → Nat → Int32) × (Nat → Int64))} {x1 : Int32} {x2 : Int32} (hk5 : ∀ (V : Nat → Nat → Int32) (L : Nat → Int64) (x3 : Int32) (x4 : Int32), k5 V L x3 x4 = some (r0, V0, L0) → Wm X 6 (IF X E Z (mw E A)) Q 5 [(0, .ref (A 0)), (1, .int x1), (2, .int x2), (3, .int x3), (4, .int x4)] [] (V, L)) (x3 : Int32) (x4 : Int32) : ∀ (n : Nat) (V : Nat → Nat → Int32) (L : Nat → Int64) (x5 : Int32), f_X5_standNow_24 k5 x1 x2 x3 x4 n V L x5 = some (r0, V0, L0) → Wm X 6 (IF X E Z (mw E A)) Q 24 [(0, .ref (A 0)), (1, .int x1), (2, .int x2), (3, .int x3), (4, .int x4), (5, .int x5)] [] (V, L) := by
  intro n
  induction n with
  | zero =>
    intro V L x5 hf
    exact none_e hf
  | succ n ih =>
    intro V L x5 hf
    rw [f_X5_standNow_24] at hf
    refine r_iload C dX5_standNow_24 5 rfl ?_
    refine r_iload C dX5_standNow_26 4 rfl ?_
    refine r_icmp_le C (tgt := 53) dX5_standNow_28 rfl hf (fun hf => ?_) (fun hf => ?_)
    · refine r_aload_n C dX5_standNow_53 0 rfl rfl ?_
      refine g_RX5_13_0 C K dX5_standNow_54 ?_
      refine r_iload C dX5_standNow_57 4 rfl ?_
      refine r_iload_n C dX5_standNow_59 1 rfl rfl ?_
      refine s_iast C K (mw_a4 E A _ _) (fun z => mw_s4 E A _ _ _) dX5_standNow_60 hf (fun V_1 hf => ?_)
      refine r_aload_n C dX5_standNow_61 0 rfl rfl ?_
      refine r_aload_n C dX5_standNow_62 0 rfl rfl ?_
      refine g_RX5_119_0 C K dX5_standNow_63 ?_
      refine r_iload C dX5_standNow_66 4 rfl ?_
      refine r_callP C cas_RX5_219 ⟨rfl, rfl, Nat.le_of_ble_eq_true rfl, Nat.le_of_ble_eq_true rfl⟩ (t_X5_opened _ (V_1 0 5) x4) rfl (rest := [.ref (A 0)]) rfl (Nat.le_of_ble_eq_true rfl) dX5_standNow_68 ?_
      refine r_iconst C dX5_standNow_71 ki_1 ?_
      refine r_iload C dX5_standNow_72 4 rfl ?_
      refine p_ishl C dX5_standNow_74 ?_
      refine r_ior C dX5_standNow_75 ?_
      refine p_RX5_119_0 C K dX5_standNow_76 hf (fun V_2 hf => ?_)
      refine r_aload_n C dX5_standNow_79 0 rfl rfl ?_
      refine r_aload_n C dX5_standNow_80 0 rfl rfl ?_
      refine g_RX5_122_0 C K dX5_standNow_81 ?_
      refine r_iload C dX5_standNow_84 4 rfl ?_
      refine r_callP C cas_RX5_219 ⟨rfl, rfl, Nat.le_of_ble_eq_true rfl, Nat.le_of_ble_eq_true rfl⟩ (t_X5_opened _ (V_2 0 6) x4) rfl (rest := [.ref (A 0)]) rfl (Nat.le_of_ble_eq_true rfl) dX5_standNow_86 ?_
      refine p_RX5_122_0 C K dX5_standNow_89 hf (fun V_3 hf => ?_)
      refine r_aload_n C dX5_standNow_92 0 rfl rfl ?_
      refine r_dup C dX5_standNow_93 rfl ?_
      refine g_RX5_125_0 C K dX5_standNow_94 ?_
      refine r_aload_n C dX5_standNow_97 0 rfl rfl ?_
      refine g_RX5_125_0 C K dX5_standNow_98 ?_
      refine r_iload C dX5_standNow_101 4 rfl ?_
      refine r_icmp_lt C (tgt := 110) dX5_standNow_103 rfl hf (fun hf => ?_) (fun hf => ?_)
      · refine r_iconst C dX5_standNow_110 ki_0 ?_
        refine r_iadd C dX5_standNow_111 ?_
        refine p_RX5_125_0 C K dX5_standNow_112 hf (fun V_4 hf => ?_)
        exact r_sub [0, 1, 2, 3, 4] rfl (w_X5_standNow_115 C K hret hk5 V_4 L x3 x4 hf)
      · refine r_iconst C dX5_standNow_106 ki_1 ?_
        refine r_goto C (tgt := 111) dX5_standNow_107 rfl ?_
        refine r_iadd C dX5_standNow_111 ?_
        refine p_RX5_125_0 C K dX5_standNow_112 hf (fun V_5 hf => ?_)
        exact r_sub [0, 1, 2, 3, 4] rfl (w_X5_standNow_115 C K hret hk5 V_5 L x3 x4 hf)
    · refine r_aload_n C dX5_standNow_31 0 rfl rfl ?_
      refine g_RX5_13_0 C K dX5_standNow_32 ?_
      refine r_iload C dX5_standNow_35 5 rfl ?_
      refine r_aload_n C dX5_standNow_37 0 rfl rfl ?_
      refine g_RX5_13_0 C K dX5_standNow_38 ?_
      refine r_iload C dX5_standNow_41 5 rfl ?_
      refine r_iconst C dX5_standNow_43 ki_1 ?_
      refine r_isub C dX5_standNow_44 ?_
      refine s_iald C K (mw_a4 E A _ _) dX5_standNow_45 hf (fun hf => ?_)
      refine s_iast C K (mw_a4 E A _ _) (fun z => mw_s4 E A _ _ _) dX5_standNow_46 hf (fun V_6 hf => ?_)
      refine r_iinc C dX5_standNow_47 5 rfl (kn_m1 _) (Nat.le_of_ble_eq_true rfl) (lv2 := [(5, .int (x5 + (-1))), (0, .ref (A 0)), (1, .int x1), (2, .int x2), (3, .int x3), (4, .int x4)]) rfl ?_
      refine r_goto C (tgt := 24) dX5_standNow_50 rfl ?_
      exact r_sub [1, 2, 3, 4, 5, 0] rfl (ih V_6 L (x5 + (-1)) hf)
set_option maxRecDepth 100000 in
theorem w_X5_standNow_5 {X : XT} {E : EvT} {Z : Nat → Prop} {Q : State → Prop} {A : Nat → Nat} (C : Cx X (.code yX5_standNow cX5_standNow 6 (some .int)) cX5_standNow 6 RX5 rm_X5_standNow.frames rm_X5_standNow.locals) (K : Ck X E Z) {r0 : Int32} {V0 : Nat → Nat → Int32} {L0 : Nat → Int64} (hret : RI X 6 cX5_standNow (IF X E Z (mw E A)) Q .int r0 (V0, L0)) (x1 : Int32) (x2 : Int32) : ∀ (n : Nat) (V : Nat → Nat → Int32) (L : Nat → Int64) (x3 : Int32) (x4 : Int32), f_X5_standNow_5 x1 x2 n V L x3 x4 = some (r0, V0, L0) → Wm X 6 (IF X E Z (mw E A)) Q 5 [(0, .ref (A 0)), (1, .int x1), (2, .int x2), (3, .int x3), (4, .int x4)] [] (V, L) := by
  intro n
  induction n with
  | zero =>
    intro V L x3 x4 hf
    exact none_e hf
  | succ n ih =>
    intro V L x3 x4 hf
    rw [f_X5_standNow_5] at hf
    refine r_iload C dX5_standNow_5 4 rfl ?_
    refine r_aload_n C dX5_standNow_7 0 rfl rfl ?_
    refine g_RX5_116_0 C K dX5_standNow_8 ?_
    refine r_icmp_gt C (tgt := 201) dX5_standNow_11 rfl hf (fun hf => ?_) (fun hf => ?_)
    · refine r_iload_n C dX5_standNow_201 3 rfl rfl ?_
      exact ri_OW hret hf dX5_standNow_202 rfl
    · refine r_aload_n C dX5_standNow_14 0 rfl rfl ?_
      refine bd2_e hf (fun V_1 L_2 hq hf => ?_)
      refine f_callV C K cal_RX5_182 ⟨rfl, rfl, Nat.le_of_ble_eq_true rfl, Nat.le_of_ble_eq_true rfl⟩ (t_X5_save _ hq) (mw_o0 E A _ _) rfl (mw_fst _ _ _ _ _ _) rfl (rest := []) rfl (Nat.le_of_ble_eq_true rfl) dX5_standNow_15 ?_
      refine r_aload_n C dX5_standNow_18 0 rfl rfl ?_
      refine g_RX5_116_0 C K dX5_standNow_19 ?_
      refine r_istore C dX5_standNow_22 (Nat.le_of_ble_eq_true rfl) (lv2 := [(5, .int (V_1 0 1)), (0, .ref (A 0)), (1, .int x1), (2, .int x2), (3, .int x3), (4, .int x4)]) rfl ?_
      exact r_sub [1, 2, 3, 4, 5, 0] rfl (w_X5_standNow_24 C K hret ih x3 x4 20000 V_1 L_2 (V_1 0 1) hf)
set_option maxRecDepth 100000 in
theorem w_X5_standNow_0 {X : XT} {E : EvT} {Z : Nat → Prop} {Q : State → Prop} {A : Nat → Nat} (C : Cx X (.code yX5_standNow cX5_standNow 6 (some .int)) cX5_standNow 6 RX5 rm_X5_standNow.frames rm_X5_standNow.locals) (K : Ck X E Z) {r0 : Int32} {V0 : Nat → Nat → Int32} {L0 : Nat → Int64} (hret : RI X 6 cX5_standNow (IF X E Z (mw E A)) Q .int r0 (V0, L0)) : ∀ (V : Nat → Nat → Int32) (L : Nat → Int64) (x1 : Int32) (x2 : Int32), f_X5_standNow V L x1 x2 = some (r0, V0, L0) → Wm X 6 (IF X E Z (mw E A)) Q 0 [(0, .ref (A 0)), (1, .int x1), (2, .int x2)] [] (V, L) := by
  intro V L x1 x2 hf
  rw [f_X5_standNow] at hf
  refine r_iconst C dX5_standNow_0 ki_0 ?_
  refine r_istore_n C dX5_standNow_1 rfl (Nat.le_of_ble_eq_true rfl) (lv2 := [(3, .int (0 : Int32)), (0, .ref (A 0)), (1, .int x1), (2, .int x2)]) rfl ?_
  refine r_iconst C dX5_standNow_2 ki_0 ?_
  refine r_istore C dX5_standNow_3 (Nat.le_of_ble_eq_true rfl) (lv2 := [(4, .int (0 : Int32)), (3, .int (0 : Int32)), (0, .ref (A 0)), (1, .int x1), (2, .int x2)]) rfl ?_
  exact r_sub [2, 3, 4, 1, 0] rfl (w_X5_standNow_5 C K hret x1 x2 20000 V L (0 : Int32) (0 : Int32) hf)
theorem t_X5_standNow (l : Launch) {E : EvT} {A : Nat → Nat} {V : Nat → Nat → Int32} {L : Nat → Int64} (x1 : Int32) (x2 : Int32) {r0 : Int32} {V0 : Nat → Nat → Int32} {L0 : Nat → Int64} (hq : f_X5_standNow V L x1 x2 = some (r0, V0, L0)) : KI l yX5_standNow (.code yX5_standNow cX5_standNow 6 (some .int) :: wA) rm_X5_standNow E (mw E A V L) (mw E A V0 L0) [.ref (A 0), .int x1, .int x2] r0 := by
  refine ent_I (own := RX5) (ty := .int) (lv0 := [(0, .ref (A 0)), (1, .int x1), (2, .int x2)]) (by decide) rfl rfl (Nat.le_of_ble_eq_true rfl) rfl (mw_fst _ _ _ _ _ _) ?_
  intro X Z Q hl C K hret
  exact w_X5_standNow_0 C K hret V L x1 x2 hq
set_option maxRecDepth 100000 in
theorem w_X5_stand_0 {X : XT} {E : EvT} {Z : Nat → Prop} {Q : State → Prop} {A : Nat → Nat} (C : Cx X (.code yX5_stand cX5_stand 3 (some .int)) cX5_stand 3 RX5 rm_X5_stand.frames rm_X5_stand.locals) (K : Ck X E Z) {r0 : Int32} {V0 : Nat → Nat → Int32} {L0 : Nat → Int64} (hret : RI X 3 cX5_stand (IF X E Z (mw E A)) Q .int r0 (V0, L0)) : ∀ (V : Nat → Nat → Int32) (L : Nat → Int64) (x1 : Int32) (x2 : Int32), f_X5_stand V L x1 x2 = some (r0, V0, L0) → Wm X 3 (IF X E Z (mw E A)) Q 0 [(0, .ref (A 0)), (1, .int x1), (2, .int x2)] [] (V, L) := by
  intro V L x1 x2 hf
  rw [f_X5_stand] at hf
  refine r_iload_n C dX5_stand_0 1 rfl rfl ?_
  refine r_iconst C dX5_stand_1 ki_0 ?_
  refine r_iconst C dX5_stand_2 ki_4 ?_
  refine r_callP C cas_RX5_77 ⟨rfl, rfl, Nat.le_of_ble_eq_true rfl, Nat.le_of_ble_eq_true rfl⟩ (t_X5_within _ x1 (0 : Int32) (4 : Int32)) rfl (rest := []) rfl (Nat.le_of_ble_eq_true rfl) dX5_stand_3 ?_
  refine r_if_eq C (tgt := 16) dX5_stand_6 rfl hf (fun hf => ?_) (fun hf => ?_)
  · refine r_bipush C dX5_stand_16 kb_m102 ?_
    exact ri_OW hret hf dX5_stand_18 rfl
  · refine r_iload_n C dX5_stand_9 2 rfl rfl ?_
    refine r_callP C cas_RX5_213 ⟨rfl, rfl, Nat.le_of_ble_eq_true rfl, Nat.le_of_ble_eq_true rfl⟩ (t_X5_areBeats _ x2) rfl (rest := []) rfl (Nat.le_of_ble_eq_true rfl) dX5_stand_10 ?_
    refine r_if_ne C (tgt := 19) dX5_stand_13 rfl hf (fun hf => ?_) (fun hf => ?_)
    · refine r_aload_n C dX5_stand_19 0 rfl rfl ?_
      refine g_RX5_116_0 C K dX5_stand_20 ?_
      refine r_if_ne C (tgt := 31) dX5_stand_23 rfl hf (fun hf => ?_) (fun hf => ?_)
      · refine r_aload_n C dX5_stand_31 0 rfl rfl ?_
        refine r_iload_n C dX5_stand_32 1 rfl rfl ?_
        refine r_iload_n C dX5_stand_33 2 rfl rfl ?_
        refine bd3_e hf (fun r_1 V_2 L_3 hq hf => ?_)
        refine f_callI C K cal_RX5_222 ⟨rfl, rfl, Nat.le_of_ble_eq_true rfl, Nat.le_of_ble_eq_true rfl⟩ (t_X5_standNow _ x1 x2 hq) (mw_o0 E A _ _) rfl (mw_fst _ _ _ _ _ _) rfl (rest := []) rfl (Nat.le_of_ble_eq_true rfl) dX5_stand_34 ?_
        exact ri_OW hret hf dX5_stand_37 rfl
      · refine r_bipush C dX5_stand_26 kb_m103 ?_
        refine r_goto C (tgt := 37) dX5_stand_28 rfl ?_
        exact ri_OW hret hf dX5_stand_37 rfl
    · refine r_bipush C dX5_stand_16 kb_m102 ?_
      exact ri_OW hret hf dX5_stand_18 rfl
theorem t_X5_stand (l : Launch) {E : EvT} {A : Nat → Nat} {V : Nat → Nat → Int32} {L : Nat → Int64} (x1 : Int32) (x2 : Int32) {r0 : Int32} {V0 : Nat → Nat → Int32} {L0 : Nat → Int64} (hq : f_X5_stand V L x1 x2 = some (r0, V0, L0)) : KI l yX5_stand (.code yX5_stand cX5_stand 3 (some .int) :: wA) rm_X5_stand E (mw E A V L) (mw E A V0 L0) [.ref (A 0), .int x1, .int x2] r0 := by
  refine ent_I (own := RX5) (ty := .int) (lv0 := [(0, .ref (A 0)), (1, .int x1), (2, .int x2)]) (by decide) rfl rfl (Nat.le_of_ble_eq_true rfl) rfl (mw_fst _ _ _ _ _ _) ?_
  intro X Z Q hl C K hret
  exact w_X5_stand_0 C K hret V L x1 x2 hq
set_option maxRecDepth 100000 in
theorem w_X5_playBy_15 {X : XT} {E : EvT} {Z : Nat → Prop} {Q : State → Prop} {A : Nat → Nat} (C : Cx X (.code yX5_playBy cX5_playBy 8 (some .int)) cX5_playBy 8 RX5 rm_X5_playBy.frames rm_X5_playBy.locals) (K : Ck X E Z) {r0 : Int32} {V0 : Nat → Nat → Int32} {L0 : Nat → Int64} (hret : RI X 8 cX5_playBy (IF X E Z (mw E A)) Q .int r0 (V0, L0)) (x1 : Int32) (x3 : Int32) (x4 : Int32) : ∀ (n : Nat) (V : Nat → Nat → Int32) (L : Nat → Int64) (x5 : Int32) (x6 : Int32), f_X5_playBy_15 x1 x3 x4 n V L x5 x6 = some (r0, V0, L0) → Wm X 8 (IF X E Z (mw E A)) Q 15 [(0, .ref (A 0)), (1, .int x1), (3, .int x3), (4, .int x4), (5, .int x5), (6, .int x6)] [] (V, L) := by
  intro n
  induction n with
  | zero =>
    intro V L x5 x6 hf
    exact none_e hf
  | succ n ih =>
    intro V L x5 x6 hf
    rw [f_X5_playBy_15] at hf
    refine r_iload C dX5_playBy_15 5 rfl ?_
    refine r_iconst C dX5_playBy_17 ki_m1 ?_
    refine r_icmp_ne C (tgt := 100) dX5_playBy_18 rfl hf (fun hf => ?_) (fun hf => ?_)
    · refine r_aload_n C dX5_playBy_100 0 rfl rfl ?_
      refine bd2_e hf (fun V_1 L_2 hq hf => ?_)
      refine f_callV C K cal_RX5_188 ⟨rfl, rfl, Nat.le_of_ble_eq_true rfl, Nat.le_of_ble_eq_true rfl⟩ (t_X5_load _ hq) (mw_o0 E A _ _) rfl (mw_fst _ _ _ _ _ _) rfl (rest := []) rfl (Nat.le_of_ble_eq_true rfl) dX5_playBy_101 ?_
      refine r_iload C dX5_playBy_104 5 rfl ?_
      exact ri_OW hret hf dX5_playBy_106 rfl
    · refine r_aload_n C dX5_playBy_21 0 rfl rfl ?_
      refine bd1_e hf (fun r_3 hq hf => ?_)
      refine f_callI C K cal_RX5_175 ⟨rfl, rfl, Nat.le_of_ble_eq_true rfl, Nat.le_of_ble_eq_true rfl⟩ (t_X5_isCount _ hq) (mw_o0 E A _ _) rfl (mw_fst _ _ _ _ _ _) rfl (rest := []) rfl (Nat.le_of_ble_eq_true rfl) dX5_playBy_22 ?_
      refine r_if_ne C (tgt := 34) dX5_playBy_25 rfl hf (fun hf => ?_) (fun hf => ?_)
      · refine r_iload C dX5_playBy_34 4 rfl ?_
        refine r_aload_n C dX5_playBy_36 0 rfl rfl ?_
        refine g_RX5_113_0 C K dX5_playBy_37 ?_
        refine gd_ni hf (fun hne hf => ?_)
        refine r_idiv C dX5_playBy_40 hne ?_
        refine r_istore C dX5_playBy_41 (Nat.le_of_ble_eq_true rfl) (lv2 := [(5, .int (x5 / (V 0 2))), (0, .ref (A 0)), (1, .int x1), (3, .int x3), (4, .int x4), (6, .int x6)]) rfl ?_
        refine r_aload_n C dX5_playBy_43 1 rfl rfl ?_
        refine r_aload_n C dX5_playBy_44 1 rfl rfl ?_
        refine g_RX5_7_0 C K dX5_playBy_45 ?_
        refine r_iload_n C dX5_playBy_48 2 rfl rfl ?_
        refine r_iload C dX5_playBy_49 0 rfl ?_
        refine gd_ni hf (fun hne hf => ?_)
        refine r_idiv C dX5_playBy_51 hne ?_
        refine r_aload_n C dX5_playBy_52 1 rfl rfl ?_
        refine g_RX5_113_0 C K dX5_playBy_53 ?_
        refine gd_ni hf (fun hne hf => ?_)
        refine p_irem C dX5_playBy_56 hne ?_
        refine s_iald C K (mw_a3 E A _ _) dX5_playBy_57 hf (fun hf => ?_)
        refine bd3_e hf (fun r_4 V_5 L_6 hq hf => ?_)
        refine f_callI C K cal_RX5_179 ⟨rfl, rfl, Nat.le_of_ble_eq_true rfl, Nat.le_of_ble_eq_true rfl⟩ (t_X5_goCount _ (V 3 (irem (x1 / (x5 / (V 0 2))) (V 0 2)).toNatClampNeg) hq) (mw_o0 E A _ _) rfl (mw_fst _ _ _ _ _ _) rfl (rest := []) rfl (Nat.le_of_ble_eq_true rfl) dX5_playBy_58 ?_
        refine r_istore C dX5_playBy_61 (Nat.le_of_ble_eq_true rfl) (lv2 := [(7, .int r_4), (5, .int (x5 / (V 0 2))), (0, .ref (A 0)), (1, .int x1), (3, .int x3), (4, .int x4), (6, .int x6)]) rfl ?_
        refine r_aload_n C dX5_playBy_63 2 rfl rfl ?_
        refine r_dup C dX5_playBy_64 rfl ?_
        refine g_RX5_225_0 C K dX5_playBy_65 ?_
        refine r_iconst C dX5_playBy_68 ki_1 ?_
        refine r_iadd C dX5_playBy_69 ?_
        refine p_RX5_225_0 C K dX5_playBy_70 hf (fun V_7 hf => ?_)
        refine r_iload C dX5_playBy_73 0 rfl ?_
        refine r_iload C dX5_playBy_75 5 rfl ?_
        refine r_icmp_ne C (tgt := 84) dX5_playBy_77 rfl hf (fun hf => ?_) (fun hf => ?_)
        · refine r_iload C dX5_playBy_84 0 rfl ?_
          refine r_iload_n C dX5_playBy_86 4 rfl rfl ?_
          refine r_icmp_ne C (tgt := 94) dX5_playBy_87 rfl hf (fun hf => ?_) (fun hf => ?_)
          · refine r_iconst C dX5_playBy_94 ki_m1 ?_
            refine r_istore C dX5_playBy_95 (Nat.le_of_ble_eq_true rfl) (lv2 := [(6, .int (-1 : Int32)), (7, .int r_4), (5, .int (x5 / (V 0 2))), (0, .ref (A 0)), (1, .int x1), (3, .int x3), (4, .int x4)]) rfl ?_
            refine r_goto C (tgt := 15) dX5_playBy_97 rfl ?_
            exact r_sub [3, 4, 5, 6, 2, 0] rfl (ih V_7 L_6 (x5 / (V 0 2)) (-1 : Int32) hf)
          · refine r_iconst C dX5_playBy_90 ki_0 ?_
            refine r_goto C (tgt := 95) dX5_playBy_91 rfl ?_
            refine r_istore C dX5_playBy_95 (Nat.le_of_ble_eq_true rfl) (lv2 := [(6, .int (0 : Int32)), (7, .int r_4), (5, .int (x5 / (V 0 2))), (0, .ref (A 0)), (1, .int x1), (3, .int x3), (4, .int x4)]) rfl ?_
            refine r_goto C (tgt := 15) dX5_playBy_97 rfl ?_
            exact r_sub [3, 4, 5, 6, 2, 0] rfl (ih V_7 L_6 (x5 / (V 0 2)) (0 : Int32) hf)
        · refine r_iconst C dX5_playBy_80 ki_2 ?_
          refine r_goto C (tgt := 95) dX5_playBy_81 rfl ?_
          refine r_istore C dX5_playBy_95 (Nat.le_of_ble_eq_true rfl) (lv2 := [(6, .int (2 : Int32)), (7, .int r_4), (5, .int (x5 / (V 0 2))), (0, .ref (A 0)), (1, .int x1), (3, .int x3), (4, .int x4)]) rfl ?_
          refine r_goto C (tgt := 15) dX5_playBy_97 rfl ?_
          exact r_sub [3, 4, 5, 6, 2, 0] rfl (ih V_7 L_6 (x5 / (V 0 2)) (2 : Int32) hf)
      · refine r_iconst C dX5_playBy_28 ki_1 ?_
        refine r_istore C dX5_playBy_29 (Nat.le_of_ble_eq_true rfl) (lv2 := [(6, .int (1 : Int32)), (0, .ref (A 0)), (1, .int x1), (3, .int x3), (4, .int x4), (5, .int x5)]) rfl ?_
        refine r_goto C (tgt := 15) dX5_playBy_31 rfl ?_
        exact r_sub [1, 2, 3, 4, 5, 0] rfl (ih V L x5 (1 : Int32) hf)
set_option maxRecDepth 100000 in
theorem w_X5_playBy_0 {X : XT} {E : EvT} {Z : Nat → Prop} {Q : State → Prop} {A : Nat → Nat} (C : Cx X (.code yX5_playBy cX5_playBy 8 (some .int)) cX5_playBy 8 RX5 rm_X5_playBy.frames rm_X5_playBy.locals) (K : Ck X E Z) {r0 : Int32} {V0 : Nat → Nat → Int32} {L0 : Nat → Int64} (hret : RI X 8 cX5_playBy (IF X E Z (mw E A)) Q .int r0 (V0, L0)) : ∀ (V : Nat → Nat → Int32) (L : Nat → Int64) (x1 : Int32) (x2 : Int32) (x3 : Int32) (x4 : Int32), f_X5_playBy V L x1 x2 x3 x4 = some (r0, V0, L0) → Wm X 8 (IF X E Z (mw E A)) Q 0 [(0, .ref (A 0)), (1, .int x1), (2, .int x2), (3, .int x3), (4, .int x4)] [] (V, L) := by
  intro V L x1 x2 x3 x4 hf
  rw [f_X5_playBy] at hf
  refine r_aload_n C dX5_playBy_0 0 rfl rfl ?_
  refine bd2_e hf (fun V_1 L_2 hq hf => ?_)
  refine f_callV C K cal_RX5_182 ⟨rfl, rfl, Nat.le_of_ble_eq_true rfl, Nat.le_of_ble_eq_true rfl⟩ (t_X5_save _ hq) (mw_o0 E A _ _) rfl (mw_fst _ _ _ _ _ _) rfl (rest := []) rfl (Nat.le_of_ble_eq_true rfl) dX5_playBy_1 ?_
  refine r_iload_n C dX5_playBy_4 2 rfl rfl ?_
  refine r_istore C dX5_playBy_5 (Nat.le_of_ble_eq_true rfl) (lv2 := [(5, .int x2), (0, .ref (A 0)), (1, .int x1), (2, .int x2), (3, .int x3), (4, .int x4)]) rfl ?_
  refine r_iconst C dX5_playBy_7 ki_m1 ?_
  refine r_istore C dX5_playBy_8 (Nat.le_of_ble_eq_true rfl) (lv2 := [(6, .int (-1 : Int32)), (5, .int x2), (0, .ref (A 0)), (1, .int x1), (2, .int x2), (3, .int x3), (4, .int x4)]) rfl ?_
  refine r_aload_n C dX5_playBy_10 2 rfl rfl ?_
  refine r_iconst C dX5_playBy_11 ki_0 ?_
  refine p_RX5_225_0 C K dX5_playBy_12 hf (fun V_3 hf => ?_)
  exact r_sub [2, 3, 5, 6, 1, 0] rfl (w_X5_playBy_15 C K hret x1 x3 x4 20000 V_3 L_2 x2 (-1 : Int32) hf)
theorem t_X5_playBy (l : Launch) {E : EvT} {A : Nat → Nat} {V : Nat → Nat → Int32} {L : Nat → Int64} (x1 : Int32) (x2 : Int32) (x3 : Int32) (x4 : Int32) {r0 : Int32} {V0 : Nat → Nat → Int32} {L0 : Nat → Int64} (hq : f_X5_playBy V L x1 x2 x3 x4 = some (r0, V0, L0)) : KI l yX5_playBy (.code yX5_playBy cX5_playBy 8 (some .int) :: wA) rm_X5_playBy E (mw E A V L) (mw E A V0 L0) [.ref (A 0), .int x1, .int x2, .int x3, .int x4] r0 := by
  refine ent_I (own := RX5) (ty := .int) (lv0 := [(0, .ref (A 0)), (1, .int x1), (2, .int x2), (3, .int x3), (4, .int x4)]) (by decide) rfl rfl (Nat.le_of_ble_eq_true rfl) rfl (mw_fst _ _ _ _ _ _) ?_
  intro X Z Q hl C K hret
  exact w_X5_playBy_0 C K hret V L x1 x2 x3 x4 hq
set_option maxRecDepth 100000 in
theorem w_X5_layGame_78 {X : XT} {E : EvT} {Z : Nat → Prop} {Q : State → Prop} {A : Nat → Nat} (C : Cx X (.code yX5_layGame cX5_layGame 8 (some .int)) cX5_layGame 8 RX5 rm_X5_layGame.frames rm_X5_layGame.locals) (K : Ck X E Z) {r0 : Int32} {V0 : Nat → Nat → Int32} {L0 : Nat → Int64} (hret : RI X 8 cX5_layGame (IF X E Z (mw E A)) Q .int r0 (V0, L0)) {k28 : (Nat → Nat → Int32) → (Nat → Int64) → Int32 → Option (Int32 × (Nat → Nat → Int32) × (Nat → Int64))} {x1 : Int32} {x2 : Int32} {x3 : Int32} (hk28 : ∀ (V : Nat → Nat → Int32) (L : Nat → Int64) (x4 : Int32), k28 V L x4 = some (r0, V0, L0) → Wm X 8 (IF X E Z (mw E A)) Q 28 [(0, .ref (A 0)), (1, .int x1), (2, .int x2), (3, .int x3), (4, .int x4)] [] (V, L)) (x4 : Int32) (x5 : Int32) (x6 : Int32) : ∀ (n : Nat) (V : Nat → Nat → Int32) (L : Nat → Int64) (x7 : Int32), f_X5_layGame_78 k28 x1 x2 x3 x4 x5 x6 n V L x7 = some (r0, V0, L0) → Wm X 8 (IF X E Z (mw E A)) Q 78 [(0, .ref (A 0)), (1, .int x1), (2, .int x2), (3, .int x3), (4, .int x4), (5, .int x5), (6, .int x6), (7, .int x7)] [] (V, L) := by
  intro n
  induction n with
  | zero =>
    intro V L x7 hf
    exact none_e hf
  | succ n ih =>
    intro V L x7 hf
    rw [f_X5_layGame_78] at hf
    refine r_iload C dX5_layGame_78 7 rfl ?_
    refine r_iload C dX5_layGame_80 6 rfl ?_
    refine r_icmp_ge C (tgt := 103) dX5_layGame_82 rfl hf (fun hf => ?_) (fun hf => ?_)
    · refine r_iload C dX5_layGame_103 4 rfl ?_
      refine r_iload C dX5_layGame_105 6 rfl ?_
      refine r_iadd C dX5_layGame_107 ?_
      refine r_istore C dX5_layGame_108 (Nat.le_of_ble_eq_true rfl) (lv2 := [(4, .int (x4 + x6)), (0, .ref (A 0)), (1, .int x1), (2, .int x2), (3, .int x3), (5, .int x5), (6, .int x6), (7, .int x7)]) rfl ?_
      refine r_goto C (tgt := 28) dX5_layGame_110 rfl ?_
      exact r_sub [1, 2, 3, 4, 0] rfl (hk28 V L (x4 + x6) hf)
    · refine r_aload_n C dX5_layGame_85 0 rfl rfl ?_
      refine g_RX5_26_0 C K dX5_layGame_86 ?_
      refine r_iload C dX5_layGame_89 4 rfl ?_
      refine r_iload C dX5_layGame_91 7 rfl ?_
      refine r_iadd C dX5_layGame_93 ?_
      refine r_iload C dX5_layGame_94 5 rfl ?_
      refine s_iast C K (mw_a22 E A _ _) (fun z => mw_s22 E A _ _ _) dX5_layGame_96 hf (fun V_1 hf => ?_)
      refine r_iinc C dX5_layGame_97 7 rfl (kn_1 _) (Nat.le_of_ble_eq_true rfl) (lv2 := [(7, .int (x7 + 1)), (0, .ref (A 0)), (1, .int x1), (2, .int x2), (3, .int x3), (4, .int x4), (5, .int x5), (6, .int x6)]) rfl ?_
      refine r_goto C (tgt := 78) dX5_layGame_100 rfl ?_
      exact r_sub [1, 2, 3, 4, 5, 6, 7, 0] rfl (ih V_1 L (x7 + 1) hf)
set_option maxRecDepth 100000 in
theorem w_X5_layGame_51 {X : XT} {E : EvT} {Z : Nat → Prop} {Q : State → Prop} {A : Nat → Nat} (C : Cx X (.code yX5_layGame cX5_layGame 8 (some .int)) cX5_layGame 8 RX5 rm_X5_layGame.frames rm_X5_layGame.locals) (K : Ck X E Z) {r0 : Int32} {V0 : Nat → Nat → Int32} {L0 : Nat → Int64} (hret : RI X 8 cX5_layGame (IF X E Z (mw E A)) Q .int r0 (V0, L0)) {k28 : (Nat → Nat → Int32) → (Nat → Int64) → Int32 → Option (Int32 × (Nat → Nat → Int32) × (Nat → Int64))} {x1 : Int32} {x2 : Int32} {x3 : Int32} (hk28 : ∀ (V : Nat → Nat → Int32) (L : Nat → Int64) (x4 : Int32), k28 V L x4 = some (r0, V0, L0) → Wm X 8 (IF X E Z (mw E A)) Q 28 [(0, .ref (A 0)), (1, .int x1), (2, .int x2), (3, .int x3), (4, .int x4)] [] (V, L)) (V : Nat → Nat → Int32) (L : Nat → Int64) (x4 : Int32) (x5 : Int32) : ∀ (n : Nat) (x6 : Int32) (x7 : Int32), f_X5_layGame_51 k28 V L x1 x2 x3 x4 x5 n x6 x7 = some (r0, V0, L0) → Wm X 8 (IF X E Z (mw E A)) Q 51 [(0, .ref (A 0)), (1, .int x1), (2, .int x2), (3, .int x3), (4, .int x4), (5, .int x5), (6, .int x6), (7, .int x7)] [] (V, L) := by
  intro n
  induction n with
  | zero =>
    intro x6 x7 hf
    exact none_e hf
  | succ n ih =>
    intro x6 x7 hf
    rw [f_X5_layGame_51] at hf
    refine r_iload C dX5_layGame_51 7 rfl ?_
    refine r_aload_n C dX5_layGame_53 0 rfl rfl ?_
    refine g_RX5_225_0 C K dX5_layGame_54 ?_
    refine r_icmp_ge C (tgt := 75) dX5_layGame_57 rfl hf (fun hf => ?_) (fun hf => ?_)
    · refine r_iconst C dX5_layGame_75 ki_0 ?_
      refine r_istore C dX5_layGame_76 (Nat.le_of_ble_eq_true rfl) (lv2 := [(7, .int (0 : Int32)), (0, .ref (A 0)), (1, .int x1), (2, .int x2), (3, .int x3), (4, .int x4), (5, .int x5), (6, .int x6)]) rfl ?_
      exact r_sub [1, 2, 3, 4, 5, 6, 7, 0] rfl (w_X5_layGame_78 C K hret hk28 x4 x5 x6 20000 V L (0 : Int32) hf)
    · refine r_iload C dX5_layGame_60 6 rfl ?_
      refine r_aload_n C dX5_layGame_62 0 rfl rfl ?_
      refine g_RX5_113_0 C K dX5_layGame_63 ?_
      refine gd_ni hf (fun hne hf => ?_)
      refine r_idiv C dX5_layGame_66 hne ?_
      refine r_istore C dX5_layGame_67 (Nat.le_of_ble_eq_true rfl) (lv2 := [(6, .int (x6 / (V 0 2))), (0, .ref (A 0)), (1, .int x1), (2, .int x2), (3, .int x3), (4, .int x4), (5, .int x5), (7, .int x7)]) rfl ?_
      refine r_iinc C dX5_layGame_69 7 rfl (kn_1 _) (Nat.le_of_ble_eq_true rfl) (lv2 := [(7, .int (x7 + 1)), (6, .int (x6 / (V 0 2))), (0, .ref (A 0)), (1, .int x1), (2, .int x2), (3, .int x3), (4, .int x4), (5, .int x5)]) rfl ?_
      refine r_goto C (tgt := 51) dX5_layGame_72 rfl ?_
      exact r_sub [2, 3, 4, 5, 6, 7, 1, 0] rfl (ih (x6 / (V 0 2)) (x7 + 1) hf)
set_option maxRecDepth 100000 in
theorem w_X5_layGame_28 {X : XT} {E : EvT} {Z : Nat → Prop} {Q : State → Prop} {A : Nat → Nat} (C : Cx X (.code yX5_layGame cX5_layGame 8 (some .int)) cX5_layGame 8 RX5 rm_X5_layGame.frames rm_X5_layGame.locals) (K : Ck X E Z) {r0 : Int32} {V0 : Nat → Nat → Int32} {L0 : Nat → Int64} (hret : RI X 8 cX5_layGame (IF X E Z (mw E A)) Q .int r0 (V0, L0)) (x1 : Int32) (x2 : Int32) (x3 : Int32) : ∀ (n : Nat) (V : Nat → Nat → Int32) (L : Nat → Int64) (x4 : Int32), f_X5_layGame_28 x1 x2 x3 n V L x4 = some (r0, V0, L0) → Wm X 8 (IF X E Z (mw E A)) Q 28 [(0, .ref (A 0)), (1, .int x1), (2, .int x2), (3, .int x3), (4, .int x4)] [] (V, L) := by
  intro n
  induction n with
  | zero =>
    intro V L x4 hf
    exact none_e hf
  | succ n ih =>
    intro V L x4 hf
    rw [f_X5_layGame_28] at hf
    refine r_iload C dX5_layGame_28 4 rfl ?_
    refine r_iload_n C dX5_layGame_30 3 rfl rfl ?_
    refine r_icmp_ge C (tgt := 113) dX5_layGame_31 rfl hf (fun hf => ?_) (fun hf => ?_)
    · refine r_iload_n C dX5_layGame_113 3 rfl rfl ?_
      exact ri_OW hret hf dX5_layGame_114 rfl
    · refine r_aload_n C dX5_layGame_34 0 rfl rfl ?_
      refine r_iload C dX5_layGame_35 4 rfl ?_
      refine r_iload_n C dX5_layGame_37 3 rfl rfl ?_
      refine r_iload_n C dX5_layGame_38 1 rfl rfl ?_
      refine r_iload_n C dX5_layGame_39 2 rfl rfl ?_
      refine bd3_e hf (fun r_1 V_2 L_3 hq hf => ?_)
      refine f_callI C K cal_RX5_228 ⟨rfl, rfl, Nat.le_of_ble_eq_true rfl, Nat.le_of_ble_eq_true rfl⟩ (t_X5_playBy _ x4 x3 x1 x2 hq) (mw_o0 E A _ _) rfl (mw_fst _ _ _ _ _ _) rfl (rest := []) rfl (Nat.le_of_ble_eq_true rfl) dX5_layGame_40 ?_
      refine r_istore C dX5_layGame_43 (Nat.le_of_ble_eq_true rfl) (lv2 := [(5, .int r_1), (0, .ref (A 0)), (1, .int x1), (2, .int x2), (3, .int x3), (4, .int x4)]) rfl ?_
      refine r_iload_n C dX5_layGame_45 4 rfl rfl ?_
      refine r_istore C dX5_layGame_46 (Nat.le_of_ble_eq_true rfl) (lv2 := [(6, .int x3), (5, .int r_1), (0, .ref (A 0)), (1, .int x1), (2, .int x2), (3, .int x3), (4, .int x4)]) rfl ?_
      refine r_iconst C dX5_layGame_48 ki_0 ?_
      refine r_istore C dX5_layGame_49 (Nat.le_of_ble_eq_true rfl) (lv2 := [(7, .int (0 : Int32)), (6, .int x3), (5, .int r_1), (0, .ref (A 0)), (1, .int x1), (2, .int x2), (3, .int x3), (4, .int x4)]) rfl ?_
      exact r_sub [3, 4, 5, 6, 7, 2, 1, 0] rfl (w_X5_layGame_51 C K hret ih V_2 L_3 x4 r_1 20000 x3 (0 : Int32) hf)
set_option maxRecDepth 100000 in
theorem w_X5_layGame_5 {X : XT} {E : EvT} {Z : Nat → Prop} {Q : State → Prop} {A : Nat → Nat} (C : Cx X (.code yX5_layGame cX5_layGame 8 (some .int)) cX5_layGame 8 RX5 rm_X5_layGame.frames rm_X5_layGame.locals) (K : Ck X E Z) {r0 : Int32} {V0 : Nat → Nat → Int32} {L0 : Nat → Int64} (hret : RI X 8 cX5_layGame (IF X E Z (mw E A)) Q .int r0 (V0, L0)) (V : Nat → Nat → Int32) (L : Nat → Int64) (x1 : Int32) (x2 : Int32) : ∀ (n : Nat) (x3 : Int32) (x4 : Int32), f_X5_layGame_5 V L x1 x2 n x3 x4 = some (r0, V0, L0) → Wm X 8 (IF X E Z (mw E A)) Q 5 [(0, .ref (A 0)), (1, .int x1), (2, .int x2), (3, .int x3), (4, .int x4)] [] (V, L) := by
  intro n
  induction n with
  | zero =>
    intro x3 x4 hf
    exact none_e hf
  | succ n ih =>
    intro x3 x4 hf
    rw [f_X5_layGame_5] at hf
    refine r_iload C dX5_layGame_5 4 rfl ?_
    refine r_bipush C dX5_layGame_7 kb_7 ?_
    refine r_icmp_ge C (tgt := 25) dX5_layGame_9 rfl hf (fun hf => ?_) (fun hf => ?_)
    · refine r_iconst C dX5_layGame_25 ki_0 ?_
      refine r_istore C dX5_layGame_26 (Nat.le_of_ble_eq_true rfl) (lv2 := [(4, .int (0 : Int32)), (0, .ref (A 0)), (1, .int x1), (2, .int x2), (3, .int x3)]) rfl ?_
      exact r_sub [1, 2, 3, 4, 0] rfl (w_X5_layGame_28 C K hret x1 x2 x3 20000 V L (0 : Int32) hf)
    · refine r_iload_n C dX5_layGame_12 3 rfl rfl ?_
      refine r_aload_n C dX5_layGame_13 0 rfl rfl ?_
      refine g_RX5_113_0 C K dX5_layGame_14 ?_
      refine r_imul C dX5_layGame_17 ?_
      refine r_istore_n C dX5_layGame_18 rfl (Nat.le_of_ble_eq_true rfl) (lv2 := [(3, .int (x3 * (V 0 2))), (0, .ref (A 0)), (1, .int x1), (2, .int x2), (4, .int x4)]) rfl ?_
      refine r_iinc C dX5_layGame_19 4 rfl (kn_1 _) (Nat.le_of_ble_eq_true rfl) (lv2 := [(4, .int (x4 + 1)), (3, .int (x3 * (V 0 2))), (0, .ref (A 0)), (1, .int x1), (2, .int x2)]) rfl ?_
      refine r_goto C (tgt := 5) dX5_layGame_22 rfl ?_
      exact r_sub [2, 3, 4, 1, 0] rfl (ih (x3 * (V 0 2)) (x4 + 1) hf)
set_option maxRecDepth 100000 in
theorem w_X5_layGame_0 {X : XT} {E : EvT} {Z : Nat → Prop} {Q : State → Prop} {A : Nat → Nat} (C : Cx X (.code yX5_layGame cX5_layGame 8 (some .int)) cX5_layGame 8 RX5 rm_X5_layGame.frames rm_X5_layGame.locals) (K : Ck X E Z) {r0 : Int32} {V0 : Nat → Nat → Int32} {L0 : Nat → Int64} (hret : RI X 8 cX5_layGame (IF X E Z (mw E A)) Q .int r0 (V0, L0)) : ∀ (V : Nat → Nat → Int32) (L : Nat → Int64) (x1 : Int32) (x2 : Int32), f_X5_layGame V L x1 x2 = some (r0, V0, L0) → Wm X 8 (IF X E Z (mw E A)) Q 0 [(0, .ref (A 0)), (1, .int x1), (2, .int x2)] [] (V, L) := by
  intro V L x1 x2 hf
  rw [f_X5_layGame] at hf
  refine r_iconst C dX5_layGame_0 ki_1 ?_
  refine r_istore_n C dX5_layGame_1 rfl (Nat.le_of_ble_eq_true rfl) (lv2 := [(3, .int (1 : Int32)), (0, .ref (A 0)), (1, .int x1), (2, .int x2)]) rfl ?_
  refine r_iconst C dX5_layGame_2 ki_0 ?_
  refine r_istore C dX5_layGame_3 (Nat.le_of_ble_eq_true rfl) (lv2 := [(4, .int (0 : Int32)), (3, .int (1 : Int32)), (0, .ref (A 0)), (1, .int x1), (2, .int x2)]) rfl ?_
  exact r_sub [2, 3, 4, 1, 0] rfl (w_X5_layGame_5 C K hret V L x1 x2 20000 (1 : Int32) (0 : Int32) hf)
theorem t_X5_layGame (l : Launch) {E : EvT} {A : Nat → Nat} {V : Nat → Nat → Int32} {L : Nat → Int64} (x1 : Int32) (x2 : Int32) {r0 : Int32} {V0 : Nat → Nat → Int32} {L0 : Nat → Int64} (hq : f_X5_layGame V L x1 x2 = some (r0, V0, L0)) : KI l yX5_layGame (.code yX5_layGame cX5_layGame 8 (some .int) :: wA) rm_X5_layGame E (mw E A V L) (mw E A V0 L0) [.ref (A 0), .int x1, .int x2] r0 := by
  refine ent_I (own := RX5) (ty := .int) (lv0 := [(0, .ref (A 0)), (1, .int x1), (2, .int x2)]) (by decide) rfl rfl (Nat.le_of_ble_eq_true rfl) rfl (mw_fst _ _ _ _ _ _) ?_
  intro X Z Q hl C K hret
  exact w_X5_layGame_0 C K hret V L x1 x2 hq
set_option maxRecDepth 100000 in
theorem w_X5_foldGame_103 {X : XT} {E : EvT} {Z : Nat → Prop} {Q : State → Prop} {A : Nat → Nat} (C : Cx X (.code yX5_foldGame cX5_foldGame 9 none) cX5_foldGame 9 RX5 rm_X5_foldGame.frames rm_X5_foldGame.locals) (K : Ck X E Z) {V0 : Nat → Nat → Int32} {L0 : Nat → Int64} (hret : RV X 9 cX5_foldGame (IF X E Z (mw E A)) Q (V0, L0)) {k5 : (Nat → Nat → Int32) → (Nat → Int64) → Int32 → Int32 → Option ((Nat → Nat → Int32) × (Nat → Int64))} {k19 : (Nat → Nat → Int32) → (Nat → Int64) → Int32 → Option ((Nat → Nat → Int32) × (Nat → Int64))} {k42 : Int32 → Int32 → Option ((Nat → Nat → Int32) × (Nat → Int64))} {x2 : Int32} {x3 : Int32} {x4 : Int32} {V : Nat → Nat → Int32} {L : Nat → Int64} (hk5 : ∀ (V : Nat → Nat → Int32) (L : Nat → Int64) (x2 : Int32) (x3 : Int32), k5 V L x2 x3 = some (V0, L0) → Wm X 9 (IF X E Z (mw E A)) Q 5 [(0, .ref (A 0)), (2, .int x2), (3, .int x3)] [] (V, L)) (hk19 : ∀ (V : Nat → Nat → Int32) (L : Nat → Int64) (x4 : Int32), k19 V L x4 = some (V0, L0) → Wm X 9 (IF X E Z (mw E A)) Q 19 [(0, .ref (A 0)), (2, .int x2), (3, .int x3), (4, .int x4)] [] (V, L)) (hk42 : ∀ (x5 : Int32) (x6 : Int32), k42 x5 x6 = some (V0, L0) → Wm X 9 (IF X E Z (mw E A)) Q 42 [(0, .ref (A 0)), (2, .int x2), (3, .int x3), (4, .int x4), (5, .int x5), (6, .int x6)] [] (V, L)) : ∀ (x5 : Int32) (x6 : Int32) (x7 : Int32) (x8 : Int32), f_X5_foldGame_103 k5 k19 k42 V L x2 x3 x4 x5 x6 x7 x8 = some (V0, L0) → Wm X 9 (IF X E Z (mw E A)) Q 103 [(0, .ref (A 0)), (2, .int x2), (3, .int x3), (4, .int x4), (5, .int x5), (6, .int x6), (7, .int x7), (8, .int x8)] [] (V, L) := by
  intro x5 x6 x7 x8 hf
  rw [f_X5_foldGame_103] at hf
  refine r_iload C dX5_foldGame_103 7 rfl ?_
  refine r_if_eq C (tgt := 113) dX5_foldGame_105 rfl hf (fun hf => ?_) (fun hf => ?_)
  · refine r_iload C dX5_foldGame_113 4 rfl ?_
    refine r_istore C dX5_foldGame_115 (Nat.le_of_ble_eq_true rfl) (lv2 := [(5, .int x5), (0, .ref (A 0)), (2, .int x2), (3, .int x3), (4, .int x4), (6, .int x6), (7, .int x7), (8, .int x8)]) rfl ?_
    refine r_iinc C dX5_foldGame_117 5 rfl (kn_1 _) (Nat.le_of_ble_eq_true rfl) (lv2 := [(6, .int (x6 + 1)), (5, .int x5), (0, .ref (A 0)), (2, .int x2), (3, .int x3), (4, .int x4), (7, .int x7), (8, .int x8)]) rfl ?_
    refine r_goto C (tgt := 42) dX5_foldGame_120 rfl ?_
    exact r_sub [2, 3, 4, 5, 1, 0] rfl (hk42 x5 (x6 + 1) hf)
  · refine r_iload C dX5_foldGame_108 6 rfl ?_
    refine r_goto C (tgt := 115) dX5_foldGame_110 rfl ?_
    refine r_istore C dX5_foldGame_115 (Nat.le_of_ble_eq_true rfl) (lv2 := [(5, .int x7), (0, .ref (A 0)), (2, .int x2), (3, .int x3), (4, .int x4), (6, .int x6), (7, .int x7), (8, .int x8)]) rfl ?_
    refine r_iinc C dX5_foldGame_117 5 rfl (kn_1 _) (Nat.le_of_ble_eq_true rfl) (lv2 := [(6, .int (x6 + 1)), (5, .int x7), (0, .ref (A 0)), (2, .int x2), (3, .int x3), (4, .int x4), (7, .int x7), (8, .int x8)]) rfl ?_
    refine r_goto C (tgt := 42) dX5_foldGame_120 rfl ?_
    exact r_sub [2, 3, 4, 5, 1, 0] rfl (hk42 x7 (x6 + 1) hf)
set_option maxRecDepth 100000 in
theorem w_X5_foldGame_42 {X : XT} {E : EvT} {Z : Nat → Prop} {Q : State → Prop} {A : Nat → Nat} (C : Cx X (.code yX5_foldGame cX5_foldGame 9 none) cX5_foldGame 9 RX5 rm_X5_foldGame.frames rm_X5_foldGame.locals) (K : Ck X E Z) {V0 : Nat → Nat → Int32} {L0 : Nat → Int64} (hret : RV X 9 cX5_foldGame (IF X E Z (mw E A)) Q (V0, L0)) {k5 : (Nat → Nat → Int32) → (Nat → Int64) → Int32 → Int32 → Option ((Nat → Nat → Int32) × (Nat → Int64))} {k19 : (Nat → Nat → Int32) → (Nat → Int64) → Int32 → Option ((Nat → Nat → Int32) × (Nat → Int64))} {x2 : Int32} {x3 : Int32} (hk5 : ∀ (V : Nat → Nat → Int32) (L : Nat → Int64) (x2 : Int32) (x3 : Int32), k5 V L x2 x3 = some (V0, L0) → Wm X 9 (IF X E Z (mw E A)) Q 5 [(0, .ref (A 0)), (2, .int x2), (3, .int x3)] [] (V, L)) (hk19 : ∀ (V : Nat → Nat → Int32) (L : Nat → Int64) (x4 : Int32), k19 V L x4 = some (V0, L0) → Wm X 9 (IF X E Z (mw E A)) Q 19 [(0, .ref (A 0)), (2, .int x2), (3, .int x3), (4, .int x4)] [] (V, L)) (V : Nat → Nat → Int32) (L : Nat → Int64) (x4 : Int32) : ∀ (n : Nat) (x5 : Int32) (x6 : Int32), f_X5_foldGame_42 k5 k19 V L x2 x3 x4 n x5 x6 = some (V0, L0) → Wm X 9 (IF X E Z (mw E A)) Q 42 [(0, .ref (A 0)), (2, .int x2), (3, .int x3), (4, .int x4), (5, .int x5), (6, .int x6)] [] (V, L) := by
  intro n
  induction n with
  | zero =>
    intro x5 x6 hf
    exact none_e hf
  | succ n ih =>
    intro x5 x6 hf
    rw [f_X5_foldGame_42] at hf
    refine r_iload C dX5_foldGame_42 5 rfl ?_
    refine r_aload_n C dX5_foldGame_44 0 rfl rfl ?_
    refine g_RX5_113_0 C K dX5_foldGame_45 ?_
    refine r_icmp_ge C (tgt := 123) dX5_foldGame_48 rfl hf (fun hf => ?_) (fun hf => ?_)
    · refine r_aload_n C dX5_foldGame_123 0 rfl rfl ?_
      refine g_RX5_26_0 C K dX5_foldGame_124 ?_
      refine r_iload C dX5_foldGame_127 3 rfl ?_
      refine r_iload C dX5_foldGame_129 4 rfl ?_
      refine s_iast C K (mw_a22 E A _ _) (fun z => mw_s22 E A _ _ _) dX5_foldGame_131 hf (fun V_1 hf => ?_)
      refine r_iinc C dX5_foldGame_132 3 rfl (kn_1 _) (Nat.le_of_ble_eq_true rfl) (lv2 := [(4, .int (x4 + 1)), (0, .ref (A 0)), (2, .int x2), (3, .int x3), (5, .int x5), (6, .int x6)]) rfl ?_
      refine r_goto C (tgt := 19) dX5_foldGame_135 rfl ?_
      exact r_sub [1, 2, 3, 0] rfl (hk19 V_1 L (x4 + 1) hf)
    · refine r_aload_n C dX5_foldGame_51 0 rfl rfl ?_
      refine g_RX5_26_0 C K dX5_foldGame_52 ?_
      refine r_aload_n C dX5_foldGame_55 0 rfl rfl ?_
      refine g_RX5_113_0 C K dX5_foldGame_56 ?_
      refine r_iload C dX5_foldGame_59 3 rfl ?_
      refine r_imul C dX5_foldGame_61 ?_
      refine r_iload C dX5_foldGame_62 5 rfl ?_
      refine r_iadd C dX5_foldGame_64 ?_
      refine s_iald C K (mw_a22 E A _ _) dX5_foldGame_65 hf (fun hf => ?_)
      refine b_int hf (fun t_2 hf => ?_)
      refine r_istore C dX5_foldGame_66 (Nat.le_of_ble_eq_true rfl) (lv2 := [(7, .int t_2), (0, .ref (A 0)), (2, .int x2), (3, .int x3), (4, .int x4), (5, .int x5), (6, .int x6)]) rfl ?_
      refine r_iload_n C dX5_foldGame_68 3 rfl rfl ?_
      refine r_iconst C dX5_foldGame_69 ki_2 ?_
      refine p_irem C dX5_foldGame_70 (by decide) ?_
      refine r_if_ne C (tgt := 89) dX5_foldGame_71 rfl hf (fun hf => ?_) (fun hf => ?_)
      · refine r_iload C dX5_foldGame_89 0 rfl ?_
        refine r_iload C dX5_foldGame_91 5 rfl ?_
        refine r_icmp_ge C (tgt := 100) dX5_foldGame_93 rfl hf (fun hf => ?_) (fun hf => ?_)
        · refine r_iconst C dX5_foldGame_100 ki_0 ?_
          refine r_istore C dX5_foldGame_101 (Nat.le_of_ble_eq_true rfl) (lv2 := [(8, .int (0 : Int32)), (7, .int t_2), (0, .ref (A 0)), (2, .int x2), (3, .int x3), (4, .int x4), (5, .int x5), (6, .int x6)]) rfl ?_
          exact r_sub [2, 3, 4, 5, 6, 7, 1, 0] rfl (w_X5_foldGame_103 C K hret hk5 hk19 ih x5 x6 t_2 (0 : Int32) hf)
        · refine r_iconst C dX5_foldGame_96 ki_1 ?_
          refine r_goto C (tgt := 101) dX5_foldGame_97 rfl ?_
          refine r_istore C dX5_foldGame_101 (Nat.le_of_ble_eq_true rfl) (lv2 := [(8, .int (1 : Int32)), (7, .int t_2), (0, .ref (A 0)), (2, .int x2), (3, .int x3), (4, .int x4), (5, .int x5), (6, .int x6)]) rfl ?_
          exact r_sub [2, 3, 4, 5, 6, 7, 1, 0] rfl (w_X5_foldGame_103 C K hret hk5 hk19 ih x5 x6 t_2 (1 : Int32) hf)
      · refine r_iload C dX5_foldGame_74 0 rfl ?_
        refine r_iload C dX5_foldGame_76 5 rfl ?_
        refine r_icmp_le C (tgt := 85) dX5_foldGame_78 rfl hf (fun hf => ?_) (fun hf => ?_)
        · refine r_iconst C dX5_foldGame_85 ki_0 ?_
          refine r_goto C (tgt := 101) dX5_foldGame_86 rfl ?_
          refine r_istore C dX5_foldGame_101 (Nat.le_of_ble_eq_true rfl) (lv2 := [(8, .int (0 : Int32)), (7, .int t_2), (0, .ref (A 0)), (2, .int x2), (3, .int x3), (4, .int x4), (5, .int x5), (6, .int x6)]) rfl ?_
          exact r_sub [2, 3, 4, 5, 6, 7, 1, 0] rfl (w_X5_foldGame_103 C K hret hk5 hk19 ih x5 x6 t_2 (0 : Int32) hf)
        · refine r_iconst C dX5_foldGame_81 ki_1 ?_
          refine r_goto C (tgt := 101) dX5_foldGame_82 rfl ?_
          refine r_istore C dX5_foldGame_101 (Nat.le_of_ble_eq_true rfl) (lv2 := [(8, .int (1 : Int32)), (7, .int t_2), (0, .ref (A 0)), (2, .int x2), (3, .int x3), (4, .int x4), (5, .int x5), (6, .int x6)]) rfl ?_
          exact r_sub [2, 3, 4, 5, 6, 7, 1, 0] rfl (w_X5_foldGame_103 C K hret hk5 hk19 ih x5 x6 t_2 (1 : Int32) hf)
set_option maxRecDepth 100000 in
theorem w_X5_foldGame_19 {X : XT} {E : EvT} {Z : Nat → Prop} {Q : State → Prop} {A : Nat → Nat} (C : Cx X (.code yX5_foldGame cX5_foldGame 9 none) cX5_foldGame 9 RX5 rm_X5_foldGame.frames rm_X5_foldGame.locals) (K : Ck X E Z) {V0 : Nat → Nat → Int32} {L0 : Nat → Int64} (hret : RV X 9 cX5_foldGame (IF X E Z (mw E A)) Q (V0, L0)) {k5 : (Nat → Nat → Int32) → (Nat → Int64) → Int32 → Int32 → Option ((Nat → Nat → Int32) × (Nat → Int64))} (hk5 : ∀ (V : Nat → Nat → Int32) (L : Nat → Int64) (x2 : Int32) (x3 : Int32), k5 V L x2 x3 = some (V0, L0) → Wm X 9 (IF X E Z (mw E A)) Q 5 [(0, .ref (A 0)), (2, .int x2), (3, .int x3)] [] (V, L)) (x2 : Int32) (x3 : Int32) : ∀ (n : Nat) (V : Nat → Nat → Int32) (L : Nat → Int64) (x4 : Int32), f_X5_foldGame_19 k5 x2 x3 n V L x4 = some (V0, L0) → Wm X 9 (IF X E Z (mw E A)) Q 19 [(0, .ref (A 0)), (2, .int x2), (3, .int x3), (4, .int x4)] [] (V, L) := by
  intro n
  induction n with
  | zero =>
    intro V L x4 hf
    exact none_e hf
  | succ n ih =>
    intro V L x4 hf
    rw [f_X5_foldGame_19] at hf
    refine r_iload C dX5_foldGame_19 3 rfl ?_
    refine r_iload_n C dX5_foldGame_21 1 rfl rfl ?_
    refine r_icmp_ge C (tgt := 138) dX5_foldGame_22 rfl hf (fun hf => ?_) (fun hf => ?_)
    · refine r_iinc C dX5_foldGame_138 2 rfl (kn_m1 _) (Nat.le_of_ble_eq_true rfl) (lv2 := [(3, .int (x3 + (-1))), (0, .ref (A 0)), (2, .int x2), (4, .int x4)]) rfl ?_
      refine r_goto C (tgt := 5) dX5_foldGame_141 rfl ?_
      exact r_sub [1, 2, 0] rfl (hk5 V L x2 (x3 + (-1)) hf)
    · refine r_aload_n C dX5_foldGame_25 0 rfl rfl ?_
      refine g_RX5_26_0 C K dX5_foldGame_26 ?_
      refine r_aload_n C dX5_foldGame_29 0 rfl rfl ?_
      refine g_RX5_113_0 C K dX5_foldGame_30 ?_
      refine r_iload C dX5_foldGame_33 3 rfl ?_
      refine r_imul C dX5_foldGame_35 ?_
      refine s_iald C K (mw_a22 E A _ _) dX5_foldGame_36 hf (fun hf => ?_)
      refine b_int hf (fun t_1 hf => ?_)
      refine r_istore C dX5_foldGame_37 (Nat.le_of_ble_eq_true rfl) (lv2 := [(5, .int t_1), (0, .ref (A 0)), (2, .int x2), (3, .int x3), (4, .int x4)]) rfl ?_
      refine r_iconst C dX5_foldGame_39 ki_1 ?_
      refine r_istore C dX5_foldGame_40 (Nat.le_of_ble_eq_true rfl) (lv2 := [(6, .int (1 : Int32)), (5, .int t_1), (0, .ref (A 0)), (2, .int x2), (3, .int x3), (4, .int x4)]) rfl ?_
      exact r_sub [2, 3, 4, 5, 1, 0] rfl (w_X5_foldGame_42 C K hret hk5 ih V L x4 20000 t_1 (1 : Int32) hf)
set_option maxRecDepth 100000 in
theorem w_X5_foldGame_5 {X : XT} {E : EvT} {Z : Nat → Prop} {Q : State → Prop} {A : Nat → Nat} (C : Cx X (.code yX5_foldGame cX5_foldGame 9 none) cX5_foldGame 9 RX5 rm_X5_foldGame.frames rm_X5_foldGame.locals) (K : Ck X E Z) {V0 : Nat → Nat → Int32} {L0 : Nat → Int64} (hret : RV X 9 cX5_foldGame (IF X E Z (mw E A)) Q (V0, L0)) : ∀ (n : Nat) (V : Nat → Nat → Int32) (L : Nat → Int64) (x2 : Int32) (x3 : Int32), f_X5_foldGame_5 n V L x2 x3 = some (V0, L0) → Wm X 9 (IF X E Z (mw E A)) Q 5 [(0, .ref (A 0)), (2, .int x2), (3, .int x3)] [] (V, L) := by
  intro n
  induction n with
  | zero =>
    intro V L x2 x3 hf
    exact none_e hf
  | succ n ih =>
    intro V L x2 x3 hf
    rw [f_X5_foldGame_5] at hf
    refine r_iload_n C dX5_foldGame_5 2 rfl rfl ?_
    refine r_if_le C (tgt := 144) dX5_foldGame_6 rfl hf (fun hf => ?_) (fun hf => ?_)
    · exact rv_OV hret hf dX5_foldGame_144
    · refine r_iload_n C dX5_foldGame_9 1 rfl rfl ?_
      refine r_aload_n C dX5_foldGame_10 0 rfl rfl ?_
      refine g_RX5_113_0 C K dX5_foldGame_11 ?_
      refine gd_ni hf (fun hne hf => ?_)
      refine r_idiv C dX5_foldGame_14 hne ?_
      refine r_istore_n C dX5_foldGame_15 rfl (Nat.le_of_ble_eq_true rfl) (lv2 := [(2, .int (x2 / (V 0 2))), (0, .ref (A 0)), (3, .int x3)]) rfl ?_
      refine r_iconst C dX5_foldGame_16 ki_0 ?_
      refine r_istore C dX5_foldGame_17 (Nat.le_of_ble_eq_true rfl) (lv2 := [(4, .int (0 : Int32)), (2, .int (x2 / (V 0 2))), (0, .ref (A 0)), (3, .int x3)]) rfl ?_
      exact r_sub [2, 1, 3, 0] rfl (w_X5_foldGame_19 C K hret ih (x2 / (V 0 2)) x3 20000 V L (0 : Int32) hf)
set_option maxRecDepth 100000 in
theorem w_X5_foldGame_0 {X : XT} {E : EvT} {Z : Nat → Prop} {Q : State → Prop} {A : Nat → Nat} (C : Cx X (.code yX5_foldGame cX5_foldGame 9 none) cX5_foldGame 9 RX5 rm_X5_foldGame.frames rm_X5_foldGame.locals) (K : Ck X E Z) {V0 : Nat → Nat → Int32} {L0 : Nat → Int64} (hret : RV X 9 cX5_foldGame (IF X E Z (mw E A)) Q (V0, L0)) : ∀ (V : Nat → Nat → Int32) (L : Nat → Int64) (x1 : Int32), f_X5_foldGame V L x1 = some (V0, L0) → Wm X 9 (IF X E Z (mw E A)) Q 0 [(0, .ref (A 0)), (1, .int x1)] [] (V, L) := by
  intro V L x1 hf
  rw [f_X5_foldGame] at hf
  refine r_iload_n C dX5_foldGame_0 1 rfl rfl ?_
  refine r_istore_n C dX5_foldGame_1 rfl (Nat.le_of_ble_eq_true rfl) (lv2 := [(2, .int x1), (0, .ref (A 0)), (1, .int x1)]) rfl ?_
  refine r_bipush C dX5_foldGame_2 kb_6 ?_
  refine r_istore_n C dX5_foldGame_4 rfl (Nat.le_of_ble_eq_true rfl) (lv2 := [(3, .int (6 : Int32)), (2, .int x1), (0, .ref (A 0)), (1, .int x1)]) rfl ?_
  exact r_sub [2, 1, 0] rfl (w_X5_foldGame_5 C K hret 20000 V L x1 (6 : Int32) hf)
theorem t_X5_foldGame (l : Launch) {E : EvT} {A : Nat → Nat} {V : Nat → Nat → Int32} {L : Nat → Int64} (x1 : Int32) {V0 : Nat → Nat → Int32} {L0 : Nat → Int64} (hq : f_X5_foldGame V L x1 = some (V0, L0)) : KV l yX5_foldGame (.code yX5_foldGame cX5_foldGame 9 none :: wA) rm_X5_foldGame E (mw E A V L) (mw E A V0 L0) [.ref (A 0), .int x1] := by
  refine ent_V (own := RX5) (lv0 := [(0, .ref (A 0)), (1, .int x1)]) (by decide) rfl rfl (Nat.le_of_ble_eq_true rfl) rfl (mw_fst _ _ _ _ _ _) ?_
  intro X Z Q hl C K hret
  exact w_X5_foldGame_0 C K hret V L x1 hq
set_option maxRecDepth 100000 in
theorem w_X5_gameNow_33 {X : XT} {E : EvT} {Z : Nat → Prop} {Q : State → Prop} {A : Nat → Nat} (C : Cx X (.code yX5_gameNow cX5_gameNow 6 (some .int)) cX5_gameNow 6 RX5 rm_X5_gameNow.frames rm_X5_gameNow.locals) (K : Ck X E Z) {r0 : Int32} {V0 : Nat → Nat → Int32} {L0 : Nat → Int64} (hret : RI X 6 cX5_gameNow (IF X E Z (mw E A)) Q .int r0 (V0, L0)) (V : Nat → Nat → Int32) (L : Nat → Int64) (x3 : Int32) : ∀ (n : Nat) (x4 : Int32) (x5 : Int32), f_X5_gameNow_33 V L x3 n x4 x5 = some (r0, V0, L0) → Wm X 6 (IF X E Z (mw E A)) Q 33 [(0, .ref (A 0)), (3, .int x3), (4, .int x4), (5, .int x5)] [] (V, L) := by
  intro n
  induction n with
  | zero =>
    intro x4 x5 hf
    exact none_e hf
  | succ n ih =>
    intro x4 x5 hf
    rw [f_X5_gameNow_33] at hf
    refine r_iload C dX5_gameNow_33 3 rfl ?_
    refine r_aload_n C dX5_gameNow_35 0 rfl rfl ?_
    refine g_RX5_113_0 C K dX5_gameNow_36 ?_
    refine r_icmp_ge C (tgt := 74) dX5_gameNow_39 rfl hf (fun hf => ?_) (fun hf => ?_)
    · refine r_iload_n C dX5_gameNow_74 1 rfl rfl ?_
      refine r_if_ne C (tgt := 88) dX5_gameNow_75 rfl hf (fun hf => ?_) (fun hf => ?_)
      · refine r_iload C dX5_gameNow_88 2 rfl ?_
        exact ri_OW hret hf dX5_gameNow_90 rfl
      · refine r_aload_n C dX5_gameNow_78 0 rfl rfl ?_
        refine g_RX5_26_0 C K dX5_gameNow_79 ?_
        refine r_iload C dX5_gameNow_82 2 rfl ?_
        refine s_iald C K (mw_a22 E A _ _) dX5_gameNow_84 hf (fun hf => ?_)
        refine r_goto C (tgt := 90) dX5_gameNow_85 rfl ?_
        exact ri_OW hret hf dX5_gameNow_90 rfl
    · refine r_aload_n C dX5_gameNow_42 0 rfl rfl ?_
      refine g_RX5_26_0 C K dX5_gameNow_43 ?_
      refine r_iload C dX5_gameNow_46 3 rfl ?_
      refine s_iald C K (mw_a22 E A _ _) dX5_gameNow_48 hf (fun hf => ?_)
      refine r_aload_n C dX5_gameNow_49 0 rfl rfl ?_
      refine g_RX5_26_0 C K dX5_gameNow_50 ?_
      refine r_iload C dX5_gameNow_53 2 rfl ?_
      refine s_iald C K (mw_a22 E A _ _) dX5_gameNow_55 hf (fun hf => ?_)
      refine r_icmp_le C (tgt := 64) dX5_gameNow_56 rfl hf (fun hf => ?_) (fun hf => ?_)
      · refine r_iload C dX5_gameNow_64 2 rfl ?_
        refine r_istore C dX5_gameNow_66 (Nat.le_of_ble_eq_true rfl) (lv2 := [(4, .int x4), (0, .ref (A 0)), (3, .int x3), (5, .int x5)]) rfl ?_
        refine r_iinc C dX5_gameNow_68 3 rfl (kn_1 _) (Nat.le_of_ble_eq_true rfl) (lv2 := [(5, .int (x5 + 1)), (4, .int x4), (0, .ref (A 0)), (3, .int x3)]) rfl ?_
        refine r_goto C (tgt := 33) dX5_gameNow_71 rfl ?_
        exact r_sub [2, 3, 1, 0] rfl (ih x4 (x5 + 1) hf)
      · refine r_iload C dX5_gameNow_59 3 rfl ?_
        refine r_goto C (tgt := 66) dX5_gameNow_61 rfl ?_
        refine r_istore C dX5_gameNow_66 (Nat.le_of_ble_eq_true rfl) (lv2 := [(4, .int x5), (0, .ref (A 0)), (3, .int x3), (5, .int x5)]) rfl ?_
        refine r_iinc C dX5_gameNow_68 3 rfl (kn_1 _) (Nat.le_of_ble_eq_true rfl) (lv2 := [(5, .int (x5 + 1)), (4, .int x5), (0, .ref (A 0)), (3, .int x3)]) rfl ?_
        refine r_goto C (tgt := 33) dX5_gameNow_71 rfl ?_
        exact r_sub [2, 3, 1, 0] rfl (ih x5 (x5 + 1) hf)
set_option maxRecDepth 100000 in
theorem w_X5_gameNow_0 {X : XT} {E : EvT} {Z : Nat → Prop} {Q : State → Prop} {A : Nat → Nat} (C : Cx X (.code yX5_gameNow cX5_gameNow 6 (some .int)) cX5_gameNow 6 RX5 rm_X5_gameNow.frames rm_X5_gameNow.locals) (K : Ck X E Z) {r0 : Int32} {V0 : Nat → Nat → Int32} {L0 : Nat → Int64} (hret : RI X 6 cX5_gameNow (IF X E Z (mw E A)) Q .int r0 (V0, L0)) : ∀ (V : Nat → Nat → Int32) (L : Nat → Int64) (x1 : Int32) (x2 : Int32) (x3 : Int32), f_X5_gameNow V L x1 x2 x3 = some (r0, V0, L0) → Wm X 6 (IF X E Z (mw E A)) Q 0 [(0, .ref (A 0)), (1, .int x1), (2, .int x2), (3, .int x3)] [] (V, L) := by
  intro V L x1 x2 x3 hf
  rw [f_X5_gameNow] at hf
  refine r_aload_n C dX5_gameNow_0 0 rfl rfl ?_
  refine bd1_e hf (fun r_1 hq hf => ?_)
  refine f_callI C K cal_RX5_175 ⟨rfl, rfl, Nat.le_of_ble_eq_true rfl, Nat.le_of_ble_eq_true rfl⟩ (t_X5_isCount _ hq) (mw_o0 E A _ _) rfl (mw_fst _ _ _ _ _ _) rfl (rest := []) rfl (Nat.le_of_ble_eq_true rfl) dX5_gameNow_1 ?_
  refine r_if_ne C (tgt := 17) dX5_gameNow_4 rfl hf (fun hf => ?_) (fun hf => ?_)
  · refine r_aload_n C dX5_gameNow_17 0 rfl rfl ?_
    refine r_aload_n C dX5_gameNow_18 0 rfl rfl ?_
    refine r_iload_n C dX5_gameNow_19 1 rfl rfl ?_
    refine r_iload_n C dX5_gameNow_20 2 rfl rfl ?_
    refine bd3_e hf (fun r_2 V_3 L_4 hq hf => ?_)
    refine f_callI C K cal_RX5_232 ⟨rfl, rfl, Nat.le_of_ble_eq_true rfl, Nat.le_of_ble_eq_true rfl⟩ (t_X5_layGame _ x1 x2 hq) (mw_o0 E A _ _) rfl (mw_fst _ _ _ _ _ _) rfl (rest := [.ref (A 0)]) rfl (Nat.le_of_ble_eq_true rfl) dX5_gameNow_21 ?_
    refine bd2_e hf (fun V_5 L_6 hq hf => ?_)
    refine f_callV C K cal_RX5_235 ⟨rfl, rfl, Nat.le_of_ble_eq_true rfl, Nat.le_of_ble_eq_true rfl⟩ (t_X5_foldGame _ r_2 hq) (mw_o0 E A _ _) rfl (mw_fst _ _ _ _ _ _) rfl (rest := []) rfl (Nat.le_of_ble_eq_true rfl) dX5_gameNow_24 ?_
    refine r_iconst C dX5_gameNow_27 ki_0 ?_
    refine r_istore C dX5_gameNow_28 (Nat.le_of_ble_eq_true rfl) (lv2 := [(4, .int (0 : Int32)), (0, .ref (A 0)), (1, .int x1), (2, .int x2), (3, .int x3)]) rfl ?_
    refine r_iconst C dX5_gameNow_30 ki_1 ?_
    refine r_istore C dX5_gameNow_31 (Nat.le_of_ble_eq_true rfl) (lv2 := [(5, .int (1 : Int32)), (4, .int (0 : Int32)), (0, .ref (A 0)), (1, .int x1), (2, .int x2), (3, .int x3)]) rfl ?_
    exact r_sub [2, 5, 1, 0] rfl (w_X5_gameNow_33 C K hret V_5 L_6 x3 20000 (0 : Int32) (1 : Int32) hf)
  · refine r_iload_n C dX5_gameNow_7 3 rfl rfl ?_
    refine r_if_ne C (tgt := 15) dX5_gameNow_8 rfl hf (fun hf => ?_) (fun hf => ?_)
    · refine r_iconst C dX5_gameNow_15 ki_m1 ?_
      exact ri_OW hret hf dX5_gameNow_16 rfl
    · refine r_iconst C dX5_gameNow_11 ki_1 ?_
      refine r_goto C (tgt := 16) dX5_gameNow_12 rfl ?_
      exact ri_OW hret hf dX5_gameNow_16 rfl
theorem t_X5_gameNow (l : Launch) {E : EvT} {A : Nat → Nat} {V : Nat → Nat → Int32} {L : Nat → Int64} (x1 : Int32) (x2 : Int32) (x3 : Int32) {r0 : Int32} {V0 : Nat → Nat → Int32} {L0 : Nat → Int64} (hq : f_X5_gameNow V L x1 x2 x3 = some (r0, V0, L0)) : KI l yX5_gameNow (.code yX5_gameNow cX5_gameNow 6 (some .int) :: wA) rm_X5_gameNow E (mw E A V L) (mw E A V0 L0) [.ref (A 0), .int x1, .int x2, .int x3] r0 := by
  refine ent_I (own := RX5) (ty := .int) (lv0 := [(0, .ref (A 0)), (1, .int x1), (2, .int x2), (3, .int x3)]) (by decide) rfl rfl (Nat.le_of_ble_eq_true rfl) rfl (mw_fst _ _ _ _ _ _) ?_
  intro X Z Q hl C K hret
  exact w_X5_gameNow_0 C K hret V L x1 x2 x3 hq
set_option maxRecDepth 100000 in
theorem w_X5_game_0 {X : XT} {E : EvT} {Z : Nat → Prop} {Q : State → Prop} {A : Nat → Nat} (C : Cx X (.code yX5_game cX5_game 4 (some .int)) cX5_game 4 RX5 rm_X5_game.frames rm_X5_game.locals) (K : Ck X E Z) {r0 : Int32} {V0 : Nat → Nat → Int32} {L0 : Nat → Int64} (hret : RI X 4 cX5_game (IF X E Z (mw E A)) Q .int r0 (V0, L0)) : ∀ (V : Nat → Nat → Int32) (L : Nat → Int64) (x1 : Int32) (x2 : Int32) (x3 : Int32), f_X5_game V L x1 x2 x3 = some (r0, V0, L0) → Wm X 4 (IF X E Z (mw E A)) Q 0 [(0, .ref (A 0)), (1, .int x1), (2, .int x2), (3, .int x3)] [] (V, L) := by
  intro V L x1 x2 x3 hf
  rw [f_X5_game] at hf
  refine r_aload_n C dX5_game_0 0 rfl rfl ?_
  refine r_iload_n C dX5_game_1 1 rfl rfl ?_
  refine f_callI C K cal_RX5_197 ⟨rfl, rfl, Nat.le_of_ble_eq_true rfl, Nat.le_of_ble_eq_true rfl⟩ (t_X5_isChild _ x1) (mw_o0 E A _ _) rfl (mw_fst _ _ _ _ _ _) rfl (rest := []) rfl (Nat.le_of_ble_eq_true rfl) dX5_game_2 ?_
  refine r_if_eq C (tgt := 21) dX5_game_5 rfl hf (fun hf => ?_) (fun hf => ?_)
  · refine r_bipush C dX5_game_21 kb_m101 ?_
    exact ri_OW hret hf dX5_game_23 rfl
  · refine r_aload_n C dX5_game_8 0 rfl rfl ?_
    refine r_iload_n C dX5_game_9 2 rfl rfl ?_
    refine f_callI C K cal_RX5_197 ⟨rfl, rfl, Nat.le_of_ble_eq_true rfl, Nat.le_of_ble_eq_true rfl⟩ (t_X5_isChild _ x2) (mw_o0 E A _ _) rfl (mw_fst _ _ _ _ _ _) rfl (rest := []) rfl (Nat.le_of_ble_eq_true rfl) dX5_game_10 ?_
    refine r_if_eq C (tgt := 21) dX5_game_13 rfl hf (fun hf => ?_) (fun hf => ?_)
    · refine r_bipush C dX5_game_21 kb_m101 ?_
      exact ri_OW hret hf dX5_game_23 rfl
    · refine r_iload_n C dX5_game_16 1 rfl rfl ?_
      refine r_iload_n C dX5_game_17 2 rfl rfl ?_
      refine r_icmp_ne C (tgt := 24) dX5_game_18 rfl hf (fun hf => ?_) (fun hf => ?_)
      · refine r_iload_n C dX5_game_24 3 rfl rfl ?_
        refine r_iconst C dX5_game_25 ki_0 ?_
        refine r_iconst C dX5_game_26 ki_1 ?_
        refine r_callP C cas_RX5_77 ⟨rfl, rfl, Nat.le_of_ble_eq_true rfl, Nat.le_of_ble_eq_true rfl⟩ (t_X5_within _ x3 (0 : Int32) (1 : Int32)) rfl (rest := []) rfl (Nat.le_of_ble_eq_true rfl) dX5_game_27 ?_
        refine r_if_ne C (tgt := 36) dX5_game_30 rfl hf (fun hf => ?_) (fun hf => ?_)
        · refine r_aload_n C dX5_game_36 0 rfl rfl ?_
          refine g_RX5_119_0 C K dX5_game_37 ?_
          refine r_iload_n C dX5_game_40 1 rfl rfl ?_
          refine r_callP C cas_RX5_140 ⟨rfl, rfl, Nat.le_of_ble_eq_true rfl, Nat.le_of_ble_eq_true rfl⟩ (t_X5_isIn _ (V 0 5) x1) rfl (rest := []) rfl (Nat.le_of_ble_eq_true rfl) dX5_game_41 ?_
          refine r_if_eq C (tgt := 68) dX5_game_44 rfl hf (fun hf => ?_) (fun hf => ?_)
          · refine r_bipush C dX5_game_68 kb_m103 ?_
            exact ri_OW hret hf dX5_game_70 rfl
          · refine r_aload_n C dX5_game_47 0 rfl rfl ?_
            refine g_RX5_119_0 C K dX5_game_48 ?_
            refine r_iload_n C dX5_game_51 2 rfl rfl ?_
            refine r_callP C cas_RX5_140 ⟨rfl, rfl, Nat.le_of_ble_eq_true rfl, Nat.le_of_ble_eq_true rfl⟩ (t_X5_isIn _ (V 0 5) x2) rfl (rest := []) rfl (Nat.le_of_ble_eq_true rfl) dX5_game_52 ?_
            refine r_if_eq C (tgt := 68) dX5_game_55 rfl hf (fun hf => ?_) (fun hf => ?_)
            · refine r_bipush C dX5_game_68 kb_m103 ?_
              exact ri_OW hret hf dX5_game_70 rfl
            · refine r_aload_n C dX5_game_58 0 rfl rfl ?_
              refine r_iload_n C dX5_game_59 1 rfl rfl ?_
              refine r_iload_n C dX5_game_60 2 rfl rfl ?_
              refine r_iload_n C dX5_game_61 3 rfl rfl ?_
              refine bd3_e hf (fun r_1 V_2 L_3 hq hf => ?_)
              refine f_callI C K cal_RX5_239 ⟨rfl, rfl, Nat.le_of_ble_eq_true rfl, Nat.le_of_ble_eq_true rfl⟩ (t_X5_gameNow _ x1 x2 x3 hq) (mw_o0 E A _ _) rfl (mw_fst _ _ _ _ _ _) rfl (rest := []) rfl (Nat.le_of_ble_eq_true rfl) dX5_game_62 ?_
              refine r_goto C (tgt := 70) dX5_game_65 rfl ?_
              exact ri_OW hret hf dX5_game_70 rfl
        · refine r_bipush C dX5_game_33 kb_m102 ?_
          exact ri_OW hret hf dX5_game_35 rfl
      · refine r_bipush C dX5_game_21 kb_m101 ?_
        exact ri_OW hret hf dX5_game_23 rfl
theorem t_X5_game (l : Launch) {E : EvT} {A : Nat → Nat} {V : Nat → Nat → Int32} {L : Nat → Int64} (x1 : Int32) (x2 : Int32) (x3 : Int32) {r0 : Int32} {V0 : Nat → Nat → Int32} {L0 : Nat → Int64} (hq : f_X5_game V L x1 x2 x3 = some (r0, V0, L0)) : KI l yX5_game (.code yX5_game cX5_game 4 (some .int) :: wA) rm_X5_game E (mw E A V L) (mw E A V0 L0) [.ref (A 0), .int x1, .int x2, .int x3] r0 := by
  refine ent_I (own := RX5) (ty := .int) (lv0 := [(0, .ref (A 0)), (1, .int x1), (2, .int x2), (3, .int x3)]) (by decide) rfl rfl (Nat.le_of_ble_eq_true rfl) rfl (mw_fst _ _ _ _ _ _) ?_
  intro X Z Q hl C K hret
  exact w_X5_game_0 C K hret V L x1 x2 x3 hq
set_option maxRecDepth 100000 in
theorem w_X5_setDeep_0 {X : XT} {E : EvT} {Z : Nat → Prop} {Q : State → Prop} {A : Nat → Nat} (C : Cx X (.code yX5_setDeep cX5_setDeep 2 none) cX5_setDeep 2 RX5 rm_X5_setDeep.frames rm_X5_setDeep.locals) (K : Ck X E Z) {V0 : Nat → Nat → Int32} {L0 : Nat → Int64} (hret : RV X 2 cX5_setDeep (IF X E Z (mw E A)) Q (V0, L0)) : ∀ (V : Nat → Nat → Int32) (L : Nat → Int64) (x1 : Int32), f_X5_setDeep V L x1 = some (V0, L0) → Wm X 2 (IF X E Z (mw E A)) Q 0 [(0, .ref (A 0)), (1, .int x1)] [] (V, L) := by
  intro V L x1 hf
  rw [f_X5_setDeep] at hf
  refine r_aload_n C dX5_setDeep_0 0 rfl rfl ?_
  refine r_aload_n C dX5_setDeep_1 0 rfl rfl ?_
  refine g_RX5_29_0 C K dX5_setDeep_2 ?_
  refine r_iload_n C dX5_setDeep_5 1 rfl rfl ?_
  refine s_iald C K (mw_a24 E A _ _) dX5_setDeep_6 hf (fun hf => ?_)
  refine p_RX5_119_0 C K dX5_setDeep_7 hf (fun V_1 hf => ?_)
  refine r_aload_n C dX5_setDeep_10 0 rfl rfl ?_
  refine r_aload_n C dX5_setDeep_11 0 rfl rfl ?_
  refine g_RX5_32_0 C K dX5_setDeep_12 ?_
  refine r_iload_n C dX5_setDeep_15 1 rfl rfl ?_
  refine s_iald C K (mw_a25 E A _ _) dX5_setDeep_16 hf (fun hf => ?_)
  refine p_RX5_122_0 C K dX5_setDeep_17 hf (fun V_2 hf => ?_)
  refine r_aload_n C dX5_setDeep_20 0 rfl rfl ?_
  refine r_aload_n C dX5_setDeep_21 0 rfl rfl ?_
  refine g_RX5_35_0 C K dX5_setDeep_22 ?_
  refine r_iload_n C dX5_setDeep_25 1 rfl rfl ?_
  refine s_iald C K (mw_a26 E A _ _) dX5_setDeep_26 hf (fun hf => ?_)
  refine p_RX5_125_0 C K dX5_setDeep_27 hf (fun V_3 hf => ?_)
  refine r_aload_n C dX5_setDeep_30 0 rfl rfl ?_
  refine r_aload_n C dX5_setDeep_31 0 rfl rfl ?_
  refine g_RX5_38_0 C K dX5_setDeep_32 ?_
  refine r_iload_n C dX5_setDeep_35 1 rfl rfl ?_
  refine s_iald C K (mw_a27 E A _ _) dX5_setDeep_36 hf (fun hf => ?_)
  refine r_iconst C dX5_setDeep_37 ki_1 ?_
  refine r_icmp_ne C (tgt := 45) dX5_setDeep_38 rfl hf (fun hf => ?_) (fun hf => ?_)
  · refine r_iconst C dX5_setDeep_45 ki_0 ?_
    refine p_RX5_128_0 rfl C K dX5_setDeep_46 hf (fun V_4 hf => ?_)
    exact rv_OV hret hf dX5_setDeep_49
  · refine r_iconst C dX5_setDeep_41 ki_1 ?_
    refine r_goto C (tgt := 46) dX5_setDeep_42 rfl ?_
    refine p_RX5_128_0 rfl C K dX5_setDeep_46 hf (fun V_5 hf => ?_)
    exact rv_OV hret hf dX5_setDeep_49
theorem t_X5_setDeep (l : Launch) {E : EvT} {A : Nat → Nat} {V : Nat → Nat → Int32} {L : Nat → Int64} (x1 : Int32) {V0 : Nat → Nat → Int32} {L0 : Nat → Int64} (hq : f_X5_setDeep V L x1 = some (V0, L0)) : KV l yX5_setDeep (.code yX5_setDeep cX5_setDeep 2 none :: wA) rm_X5_setDeep E (mw E A V L) (mw E A V0 L0) [.ref (A 0), .int x1] := by
  refine ent_V (own := RX5) (lv0 := [(0, .ref (A 0)), (1, .int x1)]) (by decide) rfl rfl (Nat.le_of_ble_eq_true rfl) rfl (mw_fst _ _ _ _ _ _) ?_
  intro X Z Q hl C K hret
  exact w_X5_setDeep_0 C K hret V L x1 hq
set_option maxRecDepth 100000 in
theorem w_X5_putDeep_48 {X : XT} {E : EvT} {Z : Nat → Prop} {Q : State → Prop} {A : Nat → Nat} (C : Cx X (.code yX5_putDeep cX5_putDeep 3 none) cX5_putDeep 3 RX5 rm_X5_putDeep.frames rm_X5_putDeep.locals) (K : Ck X E Z) {V0 : Nat → Nat → Int32} {L0 : Nat → Int64} (hret : RV X 3 cX5_putDeep (IF X E Z (mw E A)) Q (V0, L0)) : ∀ (V : Nat → Nat → Int32) (L : Nat → Int64) (x1 : Int32) (x2 : Int32), f_X5_putDeep_48 V L x1 x2 = some (V0, L0) → Wm X 3 (IF X E Z (mw E A)) Q 48 [(0, .ref (A 0)), (1, .int x1), (2, .int x2)] [] (V, L) := by
  intro V L x1 x2 hf
  rw [f_X5_putDeep_48] at hf
  refine r_aload_n C dX5_putDeep_48 0 rfl rfl ?_
  refine g_RX5_41_0 C K dX5_putDeep_49 ?_
  refine r_iload_n C dX5_putDeep_52 1 rfl rfl ?_
  refine r_iload_n C dX5_putDeep_53 2 rfl rfl ?_
  refine s_iast C K (mw_a28 E A _ _) (fun z => mw_s28 E A _ _ _) dX5_putDeep_54 hf (fun V_1 hf => ?_)
  refine r_aload_n C dX5_putDeep_55 0 rfl rfl ?_
  refine g_RX5_44_0 C K dX5_putDeep_56 ?_
  refine r_iload_n C dX5_putDeep_59 1 rfl rfl ?_
  refine r_iconst C dX5_putDeep_60 ki_0 ?_
  refine s_iast C K (mw_a29 E A _ _) (fun z => mw_s29 E A _ _ _) dX5_putDeep_61 hf (fun V_2 hf => ?_)
  exact rv_OV hret hf dX5_putDeep_62
set_option maxRecDepth 100000 in
theorem w_X5_putDeep_0 {X : XT} {E : EvT} {Z : Nat → Prop} {Q : State → Prop} {A : Nat → Nat} (C : Cx X (.code yX5_putDeep cX5_putDeep 3 none) cX5_putDeep 3 RX5 rm_X5_putDeep.frames rm_X5_putDeep.locals) (K : Ck X E Z) {V0 : Nat → Nat → Int32} {L0 : Nat → Int64} (hret : RV X 3 cX5_putDeep (IF X E Z (mw E A)) Q (V0, L0)) : ∀ (V : Nat → Nat → Int32) (L : Nat → Int64) (x1 : Int32) (x2 : Int32), f_X5_putDeep V L x1 x2 = some (V0, L0) → Wm X 3 (IF X E Z (mw E A)) Q 0 [(0, .ref (A 0)), (1, .int x1), (2, .int x2)] [] (V, L) := by
  intro V L x1 x2 hf
  rw [f_X5_putDeep] at hf
  refine r_aload_n C dX5_putDeep_0 0 rfl rfl ?_
  refine g_RX5_29_0 C K dX5_putDeep_1 ?_
  refine r_iload_n C dX5_putDeep_4 1 rfl rfl ?_
  refine r_aload_n C dX5_putDeep_5 0 rfl rfl ?_
  refine g_RX5_119_0 C K dX5_putDeep_6 ?_
  refine s_iast C K (mw_a24 E A _ _) (fun z => mw_s24 E A _ _ _) dX5_putDeep_9 hf (fun V_1 hf => ?_)
  refine r_aload_n C dX5_putDeep_10 0 rfl rfl ?_
  refine g_RX5_32_0 C K dX5_putDeep_11 ?_
  refine r_iload_n C dX5_putDeep_14 1 rfl rfl ?_
  refine r_aload_n C dX5_putDeep_15 0 rfl rfl ?_
  refine g_RX5_122_0 C K dX5_putDeep_16 ?_
  refine s_iast C K (mw_a25 E A _ _) (fun z => mw_s25 E A _ _ _) dX5_putDeep_19 hf (fun V_2 hf => ?_)
  refine r_aload_n C dX5_putDeep_20 0 rfl rfl ?_
  refine g_RX5_35_0 C K dX5_putDeep_21 ?_
  refine r_iload_n C dX5_putDeep_24 1 rfl rfl ?_
  refine r_aload_n C dX5_putDeep_25 0 rfl rfl ?_
  refine g_RX5_125_0 C K dX5_putDeep_26 ?_
  refine s_iast C K (mw_a26 E A _ _) (fun z => mw_s26 E A _ _ _) dX5_putDeep_29 hf (fun V_3 hf => ?_)
  refine r_aload_n C dX5_putDeep_30 0 rfl rfl ?_
  refine g_RX5_38_0 C K dX5_putDeep_31 ?_
  refine r_iload_n C dX5_putDeep_34 1 rfl rfl ?_
  refine r_aload_n C dX5_putDeep_35 0 rfl rfl ?_
  refine g_RX5_128_0 C K dX5_putDeep_36 ?_
  refine r_if_eq C (tgt := 46) dX5_putDeep_39 rfl hf (fun hf => ?_) (fun hf => ?_)
  · refine r_iconst C dX5_putDeep_46 ki_0 ?_
    refine s_iast C K (mw_a27 E A _ _) (fun z => mw_s27 E A _ _ _) dX5_putDeep_47 hf (fun V_4 hf => ?_)
    exact r_sub [0, 1, 2] rfl (w_X5_putDeep_48 C K hret V_4 L x1 x2 hf)
  · refine r_iconst C dX5_putDeep_42 ki_1 ?_
    refine r_goto C (tgt := 47) dX5_putDeep_43 rfl ?_
    refine s_iast C K (mw_a27 E A _ _) (fun z => mw_s27 E A _ _ _) dX5_putDeep_47 hf (fun V_5 hf => ?_)
    exact r_sub [0, 1, 2] rfl (w_X5_putDeep_48 C K hret V_5 L x1 x2 hf)
theorem t_X5_putDeep (l : Launch) {E : EvT} {A : Nat → Nat} {V : Nat → Nat → Int32} {L : Nat → Int64} (x1 : Int32) (x2 : Int32) {V0 : Nat → Nat → Int32} {L0 : Nat → Int64} (hq : f_X5_putDeep V L x1 x2 = some (V0, L0)) : KV l yX5_putDeep (.code yX5_putDeep cX5_putDeep 3 none :: wA) rm_X5_putDeep E (mw E A V L) (mw E A V0 L0) [.ref (A 0), .int x1, .int x2] := by
  refine ent_V (own := RX5) (lv0 := [(0, .ref (A 0)), (1, .int x1), (2, .int x2)]) (by decide) rfl rfl (Nat.le_of_ble_eq_true rfl) rfl (mw_fst _ _ _ _ _ _) ?_
  intro X Z Q hl C K hret
  exact w_X5_putDeep_0 C K hret V L x1 x2 hq
set_option maxRecDepth 100000 in
theorem w_X5_layFaces_2 {X : XT} {E : EvT} {Z : Nat → Prop} {Q : State → Prop} {A : Nat → Nat} (C : Cx X (.code yX5_layFaces cX5_layFaces 4 none) cX5_layFaces 4 RX5 rm_X5_layFaces.frames rm_X5_layFaces.locals) (K : Ck X E Z) {V0 : Nat → Nat → Int32} {L0 : Nat → Int64} (hret : RV X 4 cX5_layFaces (IF X E Z (mw E A)) Q (V0, L0)) (x1 : Int32) : ∀ (n : Nat) (V : Nat → Nat → Int32) (L : Nat → Int64) (x2 : Int32), f_X5_layFaces_2 x1 n V L x2 = some (V0, L0) → Wm X 4 (IF X E Z (mw E A)) Q 2 [(0, .ref (A 0)), (1, .int x1), (2, .int x2)] [] (V, L) := by
  intro n
  induction n with
  | zero =>
    intro V L x2 hf
    exact none_e hf
  | succ n ih =>
    intro V L x2 hf
    rw [f_X5_layFaces_2] at hf
    refine r_iload_n C dX5_layFaces_2 2 rfl rfl ?_
    refine r_iconst C dX5_layFaces_3 ki_3 ?_
    refine r_icmp_ge C (tgt := 80) dX5_layFaces_4 rfl hf (fun hf => ?_) (fun hf => ?_)
    · exact rv_OV hret hf dX5_layFaces_80
    · refine r_aload_n C dX5_layFaces_7 0 rfl rfl ?_
      refine r_iload_n C dX5_layFaces_8 1 rfl rfl ?_
      refine bd2_e hf (fun V_1 L_2 hq hf => ?_)
      refine f_callV C K cal_RX5_243 ⟨rfl, rfl, Nat.le_of_ble_eq_true rfl, Nat.le_of_ble_eq_true rfl⟩ (t_X5_setDeep _ x1 hq) (mw_o0 E A _ _) rfl (mw_fst _ _ _ _ _ _) rfl (rest := []) rfl (Nat.le_of_ble_eq_true rfl) dX5_layFaces_9 ?_
      refine r_aload_n C dX5_layFaces_12 0 rfl rfl ?_
      refine r_iload_n C dX5_layFaces_13 2 rfl rfl ?_
      refine r_iconst C dX5_layFaces_14 ki_1 ?_
      refine r_iadd C dX5_layFaces_15 ?_
      refine bd3_e hf (fun r_3 V_4 L_5 hq hf => ?_)
      refine f_callI C K cal_RX5_179 ⟨rfl, rfl, Nat.le_of_ble_eq_true rfl, Nat.le_of_ble_eq_true rfl⟩ (t_X5_goCount _ (x2 + (1 : Int32)) hq) (mw_o0 E A _ _) rfl (mw_fst _ _ _ _ _ _) rfl (rest := []) rfl (Nat.le_of_ble_eq_true rfl) dX5_layFaces_16 ?_
      refine r_pop C dX5_layFaces_19 rfl ?_
      refine r_iconst C dX5_layFaces_20 ki_3 ?_
      refine r_iload_n C dX5_layFaces_21 1 rfl rfl ?_
      refine r_imul C dX5_layFaces_22 ?_
      refine r_iload_n C dX5_layFaces_23 2 rfl rfl ?_
      refine r_iadd C dX5_layFaces_24 ?_
      refine r_istore_n C dX5_layFaces_25 rfl (Nat.le_of_ble_eq_true rfl) (lv2 := [(3, .int (((3 : Int32) * x1) + x2)), (0, .ref (A 0)), (1, .int x1), (2, .int x2)]) rfl ?_
      refine r_aload_n C dX5_layFaces_26 1 rfl rfl ?_
      refine g_RX5_47_0 C K dX5_layFaces_27 ?_
      refine r_iload_n C dX5_layFaces_30 0 rfl rfl ?_
      refine r_aload_n C dX5_layFaces_31 1 rfl rfl ?_
      refine g_RX5_119_0 C K dX5_layFaces_32 ?_
      refine s_iast C K (mw_a30 E A _ _) (fun z => mw_s30 E A _ _ _) dX5_layFaces_35 hf (fun V_6 hf => ?_)
      refine r_aload_n C dX5_layFaces_36 1 rfl rfl ?_
      refine g_RX5_50_0 C K dX5_layFaces_37 ?_
      refine r_iload_n C dX5_layFaces_40 0 rfl rfl ?_
      refine r_aload_n C dX5_layFaces_41 1 rfl rfl ?_
      refine g_RX5_122_0 C K dX5_layFaces_42 ?_
      refine s_iast C K (mw_a31 E A _ _) (fun z => mw_s31 E A _ _ _) dX5_layFaces_45 hf (fun V_7 hf => ?_)
      refine r_aload_n C dX5_layFaces_46 1 rfl rfl ?_
      refine g_RX5_53_0 C K dX5_layFaces_47 ?_
      refine r_iload_n C dX5_layFaces_50 0 rfl rfl ?_
      refine r_aload_n C dX5_layFaces_51 1 rfl rfl ?_
      refine g_RX5_125_0 C K dX5_layFaces_52 ?_
      refine s_iast C K (mw_a32 E A _ _) (fun z => mw_s32 E A _ _ _) dX5_layFaces_55 hf (fun V_8 hf => ?_)
      refine r_aload_n C dX5_layFaces_56 1 rfl rfl ?_
      refine g_RX5_56_0 C K dX5_layFaces_57 ?_
      refine r_iload_n C dX5_layFaces_60 0 rfl rfl ?_
      refine r_aload_n C dX5_layFaces_61 1 rfl rfl ?_
      refine g_RX5_128_0 C K dX5_layFaces_62 ?_
      refine r_if_eq C (tgt := 72) dX5_layFaces_65 rfl hf (fun hf => ?_) (fun hf => ?_)
      · refine r_iconst C dX5_layFaces_72 ki_0 ?_
        refine s_iast C K (mw_a33 E A _ _) (fun z => mw_s33 E A _ _ _) dX5_layFaces_73 hf (fun V_9 hf => ?_)
        refine r_iinc C dX5_layFaces_74 3 rfl (kn_1 _) (Nat.le_of_ble_eq_true rfl) (lv2 := [(2, .int (x2 + 1)), (3, .int (((3 : Int32) * x1) + x2)), (0, .ref (A 0)), (1, .int x1)]) rfl ?_
        refine r_goto C (tgt := 2) dX5_layFaces_77 rfl ?_
        exact r_sub [2, 3, 0] rfl (ih V_9 L_5 (x2 + 1) hf)
      · refine r_iconst C dX5_layFaces_68 ki_1 ?_
        refine r_goto C (tgt := 73) dX5_layFaces_69 rfl ?_
        refine s_iast C K (mw_a33 E A _ _) (fun z => mw_s33 E A _ _ _) dX5_layFaces_73 hf (fun V_10 hf => ?_)
        refine r_iinc C dX5_layFaces_74 3 rfl (kn_1 _) (Nat.le_of_ble_eq_true rfl) (lv2 := [(2, .int (x2 + 1)), (3, .int (((3 : Int32) * x1) + x2)), (0, .ref (A 0)), (1, .int x1)]) rfl ?_
        refine r_goto C (tgt := 2) dX5_layFaces_77 rfl ?_
        exact r_sub [2, 3, 0] rfl (ih V_10 L_5 (x2 + 1) hf)
set_option maxRecDepth 100000 in
theorem w_X5_layFaces_0 {X : XT} {E : EvT} {Z : Nat → Prop} {Q : State → Prop} {A : Nat → Nat} (C : Cx X (.code yX5_layFaces cX5_layFaces 4 none) cX5_layFaces 4 RX5 rm_X5_layFaces.frames rm_X5_layFaces.locals) (K : Ck X E Z) {V0 : Nat → Nat → Int32} {L0 : Nat → Int64} (hret : RV X 4 cX5_layFaces (IF X E Z (mw E A)) Q (V0, L0)) : ∀ (V : Nat → Nat → Int32) (L : Nat → Int64) (x1 : Int32), f_X5_layFaces V L x1 = some (V0, L0) → Wm X 4 (IF X E Z (mw E A)) Q 0 [(0, .ref (A 0)), (1, .int x1)] [] (V, L) := by
  intro V L x1 hf
  rw [f_X5_layFaces] at hf
  refine r_iconst C dX5_layFaces_0 ki_0 ?_
  refine r_istore_n C dX5_layFaces_1 rfl (Nat.le_of_ble_eq_true rfl) (lv2 := [(2, .int (0 : Int32)), (0, .ref (A 0)), (1, .int x1)]) rfl ?_
  exact r_sub [1, 2, 0] rfl (w_X5_layFaces_2 C K hret x1 20000 V L (0 : Int32) hf)
theorem t_X5_layFaces (l : Launch) {E : EvT} {A : Nat → Nat} {V : Nat → Nat → Int32} {L : Nat → Int64} (x1 : Int32) {V0 : Nat → Nat → Int32} {L0 : Nat → Int64} (hq : f_X5_layFaces V L x1 = some (V0, L0)) : KV l yX5_layFaces (.code yX5_layFaces cX5_layFaces 4 none :: wA) rm_X5_layFaces E (mw E A V L) (mw E A V0 L0) [.ref (A 0), .int x1] := by
  refine ent_V (own := RX5) (lv0 := [(0, .ref (A 0)), (1, .int x1)]) (by decide) rfl rfl (Nat.le_of_ble_eq_true rfl) rfl (mw_fst _ _ _ _ _ _) ?_
  intro X Z Q hl C K hret
  exact w_X5_layFaces_0 C K hret V L x1 hq
set_option maxRecDepth 100000 in
theorem w_X5_areAlike_0 {X : XT} {E : EvT} {Z : Nat → Prop} {Q : State → Prop} {A : Nat → Nat} (C : Cx X (.code yX5_areAlike cX5_areAlike 3 (some .boolean)) cX5_areAlike 3 RX5 rm_X5_areAlike.frames rm_X5_areAlike.locals) (K : Ck X E Z) {r0 : Int32} {V : Nat → Nat → Int32} {L : Nat → Int64} (hret : RI X 3 cX5_areAlike (IF X E Z (mw E A)) Q .boolean r0 (V, L)) : ∀ (x1 : Int32) (x2 : Int32), f_X5_areAlike V L x1 x2 = some r0 → Wm X 3 (IF X E Z (mw E A)) Q 0 [(0, .ref (A 0)), (1, .int x1), (2, .int x2)] [] (V, L) := by
  intro x1 x2 hf
  rw [f_X5_areAlike] at hf
  refine r_aload_n C dX5_areAlike_0 0 rfl rfl ?_
  refine g_RX5_47_0 C K dX5_areAlike_1 ?_
  refine r_iload_n C dX5_areAlike_4 1 rfl rfl ?_
  refine s_iald C K (mw_a30 E A _ _) dX5_areAlike_5 hf (fun hf => ?_)
  refine r_aload_n C dX5_areAlike_6 0 rfl rfl ?_
  refine g_RX5_47_0 C K dX5_areAlike_7 ?_
  refine r_iload_n C dX5_areAlike_10 2 rfl rfl ?_
  refine s_iald C K (mw_a30 E A _ _) dX5_areAlike_11 hf (fun hf => ?_)
  refine r_icmp_ne C (tgt := 64) dX5_areAlike_12 rfl hf (fun hf => ?_) (fun hf => ?_)
  · refine r_iconst C dX5_areAlike_64 ki_0 ?_
    exact ri_OR hret hf dX5_areAlike_65 rfl
  · refine r_aload_n C dX5_areAlike_15 0 rfl rfl ?_
    refine g_RX5_50_0 C K dX5_areAlike_16 ?_
    refine r_iload_n C dX5_areAlike_19 1 rfl rfl ?_
    refine s_iald C K (mw_a31 E A _ _) dX5_areAlike_20 hf (fun hf => ?_)
    refine r_aload_n C dX5_areAlike_21 0 rfl rfl ?_
    refine g_RX5_50_0 C K dX5_areAlike_22 ?_
    refine r_iload_n C dX5_areAlike_25 2 rfl rfl ?_
    refine s_iald C K (mw_a31 E A _ _) dX5_areAlike_26 hf (fun hf => ?_)
    refine r_icmp_ne C (tgt := 64) dX5_areAlike_27 rfl hf (fun hf => ?_) (fun hf => ?_)
    · refine r_iconst C dX5_areAlike_64 ki_0 ?_
      exact ri_OR hret hf dX5_areAlike_65 rfl
    · refine r_aload_n C dX5_areAlike_30 0 rfl rfl ?_
      refine g_RX5_53_0 C K dX5_areAlike_31 ?_
      refine r_iload_n C dX5_areAlike_34 1 rfl rfl ?_
      refine s_iald C K (mw_a32 E A _ _) dX5_areAlike_35 hf (fun hf => ?_)
      refine r_aload_n C dX5_areAlike_36 0 rfl rfl ?_
      refine g_RX5_53_0 C K dX5_areAlike_37 ?_
      refine r_iload_n C dX5_areAlike_40 2 rfl rfl ?_
      refine s_iald C K (mw_a32 E A _ _) dX5_areAlike_41 hf (fun hf => ?_)
      refine r_icmp_ne C (tgt := 64) dX5_areAlike_42 rfl hf (fun hf => ?_) (fun hf => ?_)
      · refine r_iconst C dX5_areAlike_64 ki_0 ?_
        exact ri_OR hret hf dX5_areAlike_65 rfl
      · refine r_aload_n C dX5_areAlike_45 0 rfl rfl ?_
        refine g_RX5_56_0 C K dX5_areAlike_46 ?_
        refine r_iload_n C dX5_areAlike_49 1 rfl rfl ?_
        refine s_iald C K (mw_a33 E A _ _) dX5_areAlike_50 hf (fun hf => ?_)
        refine r_aload_n C dX5_areAlike_51 0 rfl rfl ?_
        refine g_RX5_56_0 C K dX5_areAlike_52 ?_
        refine r_iload_n C dX5_areAlike_55 2 rfl rfl ?_
        refine s_iald C K (mw_a33 E A _ _) dX5_areAlike_56 hf (fun hf => ?_)
        refine r_icmp_ne C (tgt := 64) dX5_areAlike_57 rfl hf (fun hf => ?_) (fun hf => ?_)
        · refine r_iconst C dX5_areAlike_64 ki_0 ?_
          exact ri_OR hret hf dX5_areAlike_65 rfl
        · refine r_iconst C dX5_areAlike_60 ki_1 ?_
          refine r_goto C (tgt := 65) dX5_areAlike_61 rfl ?_
          exact ri_OR hret hf dX5_areAlike_65 rfl
theorem t_X5_areAlike (l : Launch) {E : EvT} {A : Nat → Nat} {V : Nat → Nat → Int32} {L : Nat → Int64} (x1 : Int32) (x2 : Int32) {r0 : Int32} (hq : f_X5_areAlike V L x1 x2 = some r0) : KI l yX5_areAlike (.code yX5_areAlike cX5_areAlike 3 (some .boolean) :: wA) rm_X5_areAlike E (mw E A V L) (mw E A V L) [.ref (A 0), .int x1, .int x2] r0 := by
  refine ent_I (own := RX5) (ty := .boolean) (lv0 := [(0, .ref (A 0)), (1, .int x1), (2, .int x2)]) (by decide) rfl rfl (Nat.le_of_ble_eq_true rfl) rfl (mw_fst _ _ _ _ _ _) ?_
  intro X Z Q hl C K hret
  exact w_X5_areAlike_0 C K hret  x1 x2 hq
set_option maxRecDepth 100000 in
theorem w_X5_likeFaces_5 {X : XT} {E : EvT} {Z : Nat → Prop} {Q : State → Prop} {A : Nat → Nat} (C : Cx X (.code yX5_likeFaces cX5_likeFaces 5 (some .int)) cX5_likeFaces 5 RX5 rm_X5_likeFaces.frames rm_X5_likeFaces.locals) (K : Ck X E Z) {r0 : Int32} {V : Nat → Nat → Int32} {L : Nat → Int64} (hret : RI X 5 cX5_likeFaces (IF X E Z (mw E A)) Q .int r0 (V, L)) (x1 : Int32) (x2 : Int32) : ∀ (n : Nat) (x3 : Int32) (x4 : Int32), f_X5_likeFaces_5 V L x1 x2 n x3 x4 = some r0 → Wm X 5 (IF X E Z (mw E A)) Q 5 [(0, .ref (A 0)), (1, .int x1), (2, .int x2), (3, .int x3), (4, .int x4)] [] (V, L) := by
  intro n
  induction n with
  | zero =>
    intro x3 x4 hf
    exact none_e hf
  | succ n ih =>
    intro x3 x4 hf
    rw [f_X5_likeFaces_5] at hf
    refine r_iload C dX5_likeFaces_5 4 rfl ?_
    refine r_iconst C dX5_likeFaces_7 ki_3 ?_
    refine r_icmp_ge C (tgt := 46) dX5_likeFaces_8 rfl hf (fun hf => ?_) (fun hf => ?_)
    · refine r_iload_n C dX5_likeFaces_46 3 rfl rfl ?_
      exact ri_OR hret hf dX5_likeFaces_47 rfl
    · refine r_aload_n C dX5_likeFaces_11 0 rfl rfl ?_
      refine r_iconst C dX5_likeFaces_12 ki_3 ?_
      refine r_iload_n C dX5_likeFaces_13 1 rfl rfl ?_
      refine r_imul C dX5_likeFaces_14 ?_
      refine r_iload_n C dX5_likeFaces_15 2 rfl rfl ?_
      refine r_iadd C dX5_likeFaces_16 ?_
      refine r_iconst C dX5_likeFaces_17 ki_3 ?_
      refine r_iload_n C dX5_likeFaces_18 1 rfl rfl ?_
      refine r_imul C dX5_likeFaces_19 ?_
      refine r_iload C dX5_likeFaces_20 4 rfl ?_
      refine r_iadd C dX5_likeFaces_22 ?_
      refine bd1_e hf (fun r_1 hq hf => ?_)
      refine f_callI C K cal_RX5_246 ⟨rfl, rfl, Nat.le_of_ble_eq_true rfl, Nat.le_of_ble_eq_true rfl⟩ (t_X5_areAlike _ (((3 : Int32) * x1) + x2) (((3 : Int32) * x1) + x4) hq) (mw_o0 E A _ _) rfl (mw_fst _ _ _ _ _ _) rfl (rest := []) rfl (Nat.le_of_ble_eq_true rfl) dX5_likeFaces_23 ?_
      refine r_if_eq C (tgt := 40) dX5_likeFaces_26 rfl hf (fun hf => ?_) (fun hf => ?_)
      · refine r_iinc C dX5_likeFaces_40 4 rfl (kn_1 _) (Nat.le_of_ble_eq_true rfl) (lv2 := [(4, .int (x4 + 1)), (0, .ref (A 0)), (1, .int x1), (2, .int x2), (3, .int x3)]) rfl ?_
        refine r_goto C (tgt := 5) dX5_likeFaces_43 rfl ?_
        exact r_sub [1, 2, 3, 4, 0] rfl (ih x3 (x4 + 1) hf)
      · refine r_iload C dX5_likeFaces_29 4 rfl ?_
        refine r_iload_n C dX5_likeFaces_31 2 rfl rfl ?_
        refine r_icmp_ge C (tgt := 37) dX5_likeFaces_32 rfl hf (fun hf => ?_) (fun hf => ?_)
        · refine r_iinc C dX5_likeFaces_37 3 rfl (kn_1 _) (Nat.le_of_ble_eq_true rfl) (lv2 := [(3, .int (x3 + 1)), (0, .ref (A 0)), (1, .int x1), (2, .int x2), (4, .int x4)]) rfl ?_
          refine r_iinc C dX5_likeFaces_40 4 rfl (kn_1 _) (Nat.le_of_ble_eq_true rfl) (lv2 := [(4, .int (x4 + 1)), (3, .int (x3 + 1)), (0, .ref (A 0)), (1, .int x1), (2, .int x2)]) rfl ?_
          refine r_goto C (tgt := 5) dX5_likeFaces_43 rfl ?_
          exact r_sub [2, 3, 4, 1, 0] rfl (ih (x3 + 1) (x4 + 1) hf)
        · refine r_iconst C dX5_likeFaces_35 ki_0 ?_
          exact ri_OR hret hf dX5_likeFaces_36 rfl
set_option maxRecDepth 100000 in
theorem w_X5_likeFaces_0 {X : XT} {E : EvT} {Z : Nat → Prop} {Q : State → Prop} {A : Nat → Nat} (C : Cx X (.code yX5_likeFaces cX5_likeFaces 5 (some .int)) cX5_likeFaces 5 RX5 rm_X5_likeFaces.frames rm_X5_likeFaces.locals) (K : Ck X E Z) {r0 : Int32} {V : Nat → Nat → Int32} {L : Nat → Int64} (hret : RI X 5 cX5_likeFaces (IF X E Z (mw E A)) Q .int r0 (V, L)) : ∀ (x1 : Int32) (x2 : Int32), f_X5_likeFaces V L x1 x2 = some r0 → Wm X 5 (IF X E Z (mw E A)) Q 0 [(0, .ref (A 0)), (1, .int x1), (2, .int x2)] [] (V, L) := by
  intro x1 x2 hf
  rw [f_X5_likeFaces] at hf
  refine r_iconst C dX5_likeFaces_0 ki_0 ?_
  refine r_istore_n C dX5_likeFaces_1 rfl (Nat.le_of_ble_eq_true rfl) (lv2 := [(3, .int (0 : Int32)), (0, .ref (A 0)), (1, .int x1), (2, .int x2)]) rfl ?_
  refine r_iconst C dX5_likeFaces_2 ki_0 ?_
  refine r_istore C dX5_likeFaces_3 (Nat.le_of_ble_eq_true rfl) (lv2 := [(4, .int (0 : Int32)), (3, .int (0 : Int32)), (0, .ref (A 0)), (1, .int x1), (2, .int x2)]) rfl ?_
  exact r_sub [2, 3, 4, 1, 0] rfl (w_X5_likeFaces_5 C K hret x1 x2 20000 (0 : Int32) (0 : Int32) hf)
theorem t_X5_likeFaces (l : Launch) {E : EvT} {A : Nat → Nat} {V : Nat → Nat → Int32} {L : Nat → Int64} (x1 : Int32) (x2 : Int32) {r0 : Int32} (hq : f_X5_likeFaces V L x1 x2 = some r0) : KI l yX5_likeFaces (.code yX5_likeFaces cX5_likeFaces 5 (some .int) :: wA) rm_X5_likeFaces E (mw E A V L) (mw E A V L) [.ref (A 0), .int x1, .int x2] r0 := by
  refine ent_I (own := RX5) (ty := .int) (lv0 := [(0, .ref (A 0)), (1, .int x1), (2, .int x2)]) (by decide) rfl rfl (Nat.le_of_ble_eq_true rfl) rfl (mw_fst _ _ _ _ _ _) ?_
  intro X Z Q hl C K hret
  exact w_X5_likeFaces_0 C K hret  x1 x2 hq
set_option maxRecDepth 100000 in
theorem w_X5_endDeep_27 {X : XT} {E : EvT} {Z : Nat → Prop} {Q : State → Prop} {A : Nat → Nat} (C : Cx X (.code yX5_endDeep cX5_endDeep 4 none) cX5_endDeep 4 RX5 rm_X5_endDeep.frames rm_X5_endDeep.locals) (K : Ck X E Z) {V0 : Nat → Nat → Int32} {L0 : Nat → Int64} (hret : RV X 4 cX5_endDeep (IF X E Z (mw E A)) Q (V0, L0)) (x2 : Int32) : ∀ (n : Nat) (V : Nat → Nat → Int32) (L : Nat → Int64) (x3 : Int32), f_X5_endDeep_27 x2 n V L x3 = some (V0, L0) → Wm X 4 (IF X E Z (mw E A)) Q 27 [(0, .ref (A 0)), (2, .int x2), (3, .int x3)] [] (V, L) := by
  intro n
  induction n with
  | zero =>
    intro V L x3 hf
    exact none_e hf
  | succ n ih =>
    intro V L x3 hf
    rw [f_X5_endDeep_27] at hf
    refine r_iload_n C dX5_endDeep_27 2 rfl rfl ?_
    refine r_aload_n C dX5_endDeep_28 0 rfl rfl ?_
    refine g_RX5_116_0 C K dX5_endDeep_29 ?_
    refine r_icmp_ge C (tgt := 65) dX5_endDeep_32 rfl hf (fun hf => ?_) (fun hf => ?_)
    · exact rv_OV hret hf dX5_endDeep_65
    · refine r_aload_n C dX5_endDeep_35 0 rfl rfl ?_
      refine g_RX5_59_0 C K dX5_endDeep_36 ?_
      refine r_iload_n C dX5_endDeep_39 2 rfl rfl ?_
      refine r_dup2 C dX5_endDeep_40 rfl rfl ?_
      refine s_iald C K (mw_a34 E A _ _) dX5_endDeep_41 hf (fun hf => ?_)
      refine r_aload_n C dX5_endDeep_42 0 rfl rfl ?_
      refine g_RX5_119_0 C K dX5_endDeep_43 ?_
      refine r_iconst C dX5_endDeep_46 ki_1 ?_
      refine r_iload_n C dX5_endDeep_47 2 rfl rfl ?_
      refine p_ishl C dX5_endDeep_48 ?_
      refine r_icmp_ne C (tgt := 56) dX5_endDeep_49 rfl hf (fun hf => ?_) (fun hf => ?_)
      · refine r_iconst C dX5_endDeep_56 ki_0 ?_
        refine r_iadd C dX5_endDeep_57 ?_
        refine s_iast C K (mw_a34 E A _ _) (fun z => mw_s34 E A _ _ _) dX5_endDeep_58 hf (fun V_1 hf => ?_)
        refine r_iinc C dX5_endDeep_59 2 rfl (kn_1 _) (Nat.le_of_ble_eq_true rfl) (lv2 := [(3, .int (x3 + 1)), (0, .ref (A 0)), (2, .int x2)]) rfl ?_
        refine r_goto C (tgt := 27) dX5_endDeep_62 rfl ?_
        exact r_sub [1, 2, 0] rfl (ih V_1 L (x3 + 1) hf)
      · refine r_iload_n C dX5_endDeep_52 1 rfl rfl ?_
        refine r_goto C (tgt := 57) dX5_endDeep_53 rfl ?_
        refine r_iadd C dX5_endDeep_57 ?_
        refine s_iast C K (mw_a34 E A _ _) (fun z => mw_s34 E A _ _ _) dX5_endDeep_58 hf (fun V_2 hf => ?_)
        refine r_iinc C dX5_endDeep_59 2 rfl (kn_1 _) (Nat.le_of_ble_eq_true rfl) (lv2 := [(3, .int (x3 + 1)), (0, .ref (A 0)), (2, .int x2)]) rfl ?_
        refine r_goto C (tgt := 27) dX5_endDeep_62 rfl ?_
        exact r_sub [1, 2, 0] rfl (ih V_2 L (x3 + 1) hf)
set_option maxRecDepth 100000 in
theorem w_X5_endDeep_9 {X : XT} {E : EvT} {Z : Nat → Prop} {Q : State → Prop} {A : Nat → Nat} (C : Cx X (.code yX5_endDeep cX5_endDeep 4 none) cX5_endDeep 4 RX5 rm_X5_endDeep.frames rm_X5_endDeep.locals) (K : Ck X E Z) {V0 : Nat → Nat → Int32} {L0 : Nat → Int64} (hret : RV X 4 cX5_endDeep (IF X E Z (mw E A)) Q (V0, L0)) (V : Nat → Nat → Int32) (L : Nat → Int64) : ∀ (n : Nat) (x2 : Int32) (x3 : Int32), f_X5_endDeep_9 V L n x2 x3 = some (V0, L0) → Wm X 4 (IF X E Z (mw E A)) Q 9 [(0, .ref (A 0)), (2, .int x2), (3, .int x3)] [] (V, L) := by
  intro n
  induction n with
  | zero =>
    intro x2 x3 hf
    exact none_e hf
  | succ n ih =>
    intro x2 x3 hf
    rw [f_X5_endDeep_9] at hf
    refine r_iload_n C dX5_endDeep_9 2 rfl rfl ?_
    refine r_bipush C dX5_endDeep_10 kb_7 ?_
    refine r_icmp_ge C (tgt := 25) dX5_endDeep_12 rfl hf (fun hf => ?_) (fun hf => ?_)
    · refine r_iconst C dX5_endDeep_25 ki_0 ?_
      refine r_istore_n C dX5_endDeep_26 rfl (Nat.le_of_ble_eq_true rfl) (lv2 := [(3, .int (0 : Int32)), (0, .ref (A 0)), (2, .int x2)]) rfl ?_
      exact r_sub [1, 2, 0] rfl (w_X5_endDeep_27 C K hret x2 20000 V L (0 : Int32) hf)
    · refine r_iload_n C dX5_endDeep_15 1 rfl rfl ?_
      refine r_iconst C dX5_endDeep_16 ki_3 ?_
      refine r_imul C dX5_endDeep_17 ?_
      refine r_istore_n C dX5_endDeep_18 rfl (Nat.le_of_ble_eq_true rfl) (lv2 := [(2, .int (x2 * (3 : Int32))), (0, .ref (A 0)), (3, .int x3)]) rfl ?_
      refine r_iinc C dX5_endDeep_19 2 rfl (kn_1 _) (Nat.le_of_ble_eq_true rfl) (lv2 := [(3, .int (x3 + 1)), (2, .int (x2 * (3 : Int32))), (0, .ref (A 0))]) rfl ?_
      refine r_goto C (tgt := 9) dX5_endDeep_22 rfl ?_
      exact r_sub [2, 1, 0] rfl (ih (x2 * (3 : Int32)) (x3 + 1) hf)
set_option maxRecDepth 100000 in
theorem w_X5_endDeep_0 {X : XT} {E : EvT} {Z : Nat → Prop} {Q : State → Prop} {A : Nat → Nat} (C : Cx X (.code yX5_endDeep cX5_endDeep 4 none) cX5_endDeep 4 RX5 rm_X5_endDeep.frames rm_X5_endDeep.locals) (K : Ck X E Z) {V0 : Nat → Nat → Int32} {L0 : Nat → Int64} (hret : RV X 4 cX5_endDeep (IF X E Z (mw E A)) Q (V0, L0)) : ∀ (V : Nat → Nat → Int32) (L : Nat → Int64) (x1 : Int32), f_X5_endDeep V L x1 = some (V0, L0) → Wm X 4 (IF X E Z (mw E A)) Q 0 [(0, .ref (A 0)), (1, .int x1)] [] (V, L) := by
  intro V L x1 hf
  rw [f_X5_endDeep] at hf
  refine r_aload_n C dX5_endDeep_0 0 rfl rfl ?_
  refine g_RX5_41_0 C K dX5_endDeep_1 ?_
  refine r_iload_n C dX5_endDeep_4 1 rfl rfl ?_
  refine s_iald C K (mw_a28 E A _ _) dX5_endDeep_5 hf (fun hf => ?_)
  refine r_istore_n C dX5_endDeep_6 rfl (Nat.le_of_ble_eq_true rfl) (lv2 := [(2, .int (V 28 x1.toNatClampNeg)), (0, .ref (A 0)), (1, .int x1)]) rfl ?_
  refine r_iload_n C dX5_endDeep_7 2 rfl rfl ?_
  refine r_istore_n C dX5_endDeep_8 rfl (Nat.le_of_ble_eq_true rfl) (lv2 := [(3, .int x1), (2, .int (V 28 x1.toNatClampNeg)), (0, .ref (A 0)), (1, .int x1)]) rfl ?_
  exact r_sub [2, 1, 0] rfl (w_X5_endDeep_9 C K hret V L 20000 (V 28 x1.toNatClampNeg) x1 hf)
theorem t_X5_endDeep (l : Launch) {E : EvT} {A : Nat → Nat} {V : Nat → Nat → Int32} {L : Nat → Int64} (x1 : Int32) {V0 : Nat → Nat → Int32} {L0 : Nat → Int64} (hq : f_X5_endDeep V L x1 = some (V0, L0)) : KV l yX5_endDeep (.code yX5_endDeep cX5_endDeep 4 none :: wA) rm_X5_endDeep E (mw E A V L) (mw E A V0 L0) [.ref (A 0), .int x1] := by
  refine ent_V (own := RX5) (lv0 := [(0, .ref (A 0)), (1, .int x1)]) (by decide) rfl rfl (Nat.le_of_ble_eq_true rfl) rfl (mw_fst _ _ _ _ _ _) ?_
  intro X Z Q hl C K hret
  exact w_X5_endDeep_0 C K hret V L x1 hq
set_option maxRecDepth 100000 in
theorem w_X5_enter_0 {X : XT} {E : EvT} {Z : Nat → Prop} {Q : State → Prop} {A : Nat → Nat} (C : Cx X (.code yX5_enter cX5_enter 3 none) cX5_enter 3 RX5 rm_X5_enter.frames rm_X5_enter.locals) (K : Ck X E Z) {V0 : Nat → Nat → Int32} {L0 : Nat → Int64} (hret : RV X 3 cX5_enter (IF X E Z (mw E A)) Q (V0, L0)) : ∀ (V : Nat → Nat → Int32) (L : Nat → Int64) (x1 : Int32) (x2 : Int32), f_X5_enter V L x1 x2 = some (V0, L0) → Wm X 3 (IF X E Z (mw E A)) Q 0 [(0, .ref (A 0)), (1, .int x1), (2, .int x2)] [] (V, L) := by
  intro V L x1 x2 hf
  rw [f_X5_enter] at hf
  refine r_aload_n C dX5_enter_0 0 rfl rfl ?_
  refine r_iload_n C dX5_enter_1 1 rfl rfl ?_
  refine r_iload_n C dX5_enter_2 2 rfl rfl ?_
  refine bd2_e hf (fun V_1 L_2 hq hf => ?_)
  refine f_callV C K cal_RX5_249 ⟨rfl, rfl, Nat.le_of_ble_eq_true rfl, Nat.le_of_ble_eq_true rfl⟩ (t_X5_putDeep _ x1 x2 hq) (mw_o0 E A _ _) rfl (mw_fst _ _ _ _ _ _) rfl (rest := []) rfl (Nat.le_of_ble_eq_true rfl) dX5_enter_3 ?_
  refine r_aload_n C dX5_enter_6 0 rfl rfl ?_
  refine bd1_e hf (fun r_3 hq hf => ?_)
  refine f_callI C K cal_RX5_175 ⟨rfl, rfl, Nat.le_of_ble_eq_true rfl, Nat.le_of_ble_eq_true rfl⟩ (t_X5_isCount _ hq) (mw_o0 E A _ _) rfl (mw_fst _ _ _ _ _ _) rfl (rest := []) rfl (Nat.le_of_ble_eq_true rfl) dX5_enter_7 ?_
  refine r_if_eq C (tgt := 21) dX5_enter_10 rfl hf (fun hf => ?_) (fun hf => ?_)
  · refine r_aload_n C dX5_enter_21 0 rfl rfl ?_
    refine r_iload_n C dX5_enter_22 1 rfl rfl ?_
    refine bd2_e hf (fun V_4 L_5 hq hf => ?_)
    refine f_callV C K cal_RX5_256 ⟨rfl, rfl, Nat.le_of_ble_eq_true rfl, Nat.le_of_ble_eq_true rfl⟩ (t_X5_endDeep _ x1 hq) (mw_o0 E A _ _) rfl (mw_fst _ _ _ _ _ _) rfl (rest := []) rfl (Nat.le_of_ble_eq_true rfl) dX5_enter_23 ?_
    refine r_aload_n C dX5_enter_26 0 rfl rfl ?_
    refine g_RX5_44_0 C K dX5_enter_27 ?_
    refine r_iload_n C dX5_enter_30 1 rfl rfl ?_
    refine r_iconst C dX5_enter_31 ki_3 ?_
    refine s_iast C K (mw_a29 E A _ _) (fun z => mw_s29 E A _ _ _) dX5_enter_32 hf (fun V_6 hf => ?_)
    exact rv_OV hret hf dX5_enter_33
  · refine r_aload_n C dX5_enter_13 0 rfl rfl ?_
    refine r_iload_n C dX5_enter_14 1 rfl rfl ?_
    refine bd2_e hf (fun V_7 L_8 hq hf => ?_)
    refine f_callV C K cal_RX5_253 ⟨rfl, rfl, Nat.le_of_ble_eq_true rfl, Nat.le_of_ble_eq_true rfl⟩ (t_X5_layFaces _ x1 hq) (mw_o0 E A _ _) rfl (mw_fst _ _ _ _ _ _) rfl (rest := []) rfl (Nat.le_of_ble_eq_true rfl) dX5_enter_15 ?_
    refine r_goto C (tgt := 33) dX5_enter_18 rfl ?_
    exact rv_OV hret hf dX5_enter_33
theorem t_X5_enter (l : Launch) {E : EvT} {A : Nat → Nat} {V : Nat → Nat → Int32} {L : Nat → Int64} (x1 : Int32) (x2 : Int32) {V0 : Nat → Nat → Int32} {L0 : Nat → Int64} (hq : f_X5_enter V L x1 x2 = some (V0, L0)) : KV l yX5_enter (.code yX5_enter cX5_enter 3 none :: wA) rm_X5_enter E (mw E A V L) (mw E A V0 L0) [.ref (A 0), .int x1, .int x2] := by
  refine ent_V (own := RX5) (lv0 := [(0, .ref (A 0)), (1, .int x1), (2, .int x2)]) (by decide) rfl rfl (Nat.le_of_ble_eq_true rfl) rfl (mw_fst _ _ _ _ _ _) ?_
  intro X Z Q hl C K hret
  exact w_X5_enter_0 C K hret V L x1 x2 hq
