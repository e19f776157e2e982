set_option maxRecDepth 100000 in
theorem w_X1_leftBy_0 {X : XT} {E : EvT} {Z : Nat → Prop} {Q : State → Prop} {A : Nat → Nat} (C : Cx X (.code yX1_leftBy cX1_leftBy 2 (some .int)) cX1_leftBy 2 RX1 rm_X1_leftBy.frames rm_X1_leftBy.locals) (K : Ck X E Z) {r0 : Int32} {V0 : Nat → Nat → Int32} {L0 : Nat → Int64} (hret : RI X 2 cX1_leftBy (IF X E Z (cw E A)) Q .int r0 (V0, L0)) : ∀ (V : Nat → Nat → Int32) (L : Nat → Int64) (x1 : Int32), f_X1_leftBy V L x1 = some (r0, V0, L0) → Wm X 2 (IF X E Z (cw E A)) Q 0 [(0, .ref (A 15)), (1, .int x1)] [] (V, L) := by
  intro V L x1 hf
  rw [f_X1_leftBy] at hf
  refine r_aload_n C dX1_leftBy_0 0 rfl rfl ?_
  refine g_RX1_12_15 C K dX1_leftBy_1 ?_
  refine r_aload_n C dX1_leftBy_4 0 rfl rfl ?_
  refine g_RX1_37_15 C K dX1_leftBy_5 ?_
  refine g_RX1_41_5 C K dX1_leftBy_8 ?_
  refine bd1_e hf (fun c_1 hq hf => ?_)
  refine s_callV C K jc16 cal_RX1_46 ⟨rfl, rfl, Nat.le_of_ble_eq_true rfl, Nat.le_of_ble_eq_true rfl⟩ (t_X0_takeAll _ jc16 jc6 (by decide) hq) rfl (rest := []) rfl (Nat.le_of_ble_eq_true rfl) dX1_leftBy_11 ?_
  refine b_V hf (fun V_2 hf => ?_)
  refine r_aload_n C dX1_leftBy_14 0 rfl rfl ?_
  refine g_RX1_12_15 C K dX1_leftBy_15 ?_
  refine r_iload_n C dX1_leftBy_18 1 rfl rfl ?_
  refine bd2_e hf (fun r_3 c_4 hq hf => ?_)
  refine s_callI C K jc16 cal_RX1_58 ⟨rfl, rfl, Nat.le_of_ble_eq_true rfl, Nat.le_of_ble_eq_true rfl⟩ (t_X0_countDown _ jc16 x1 hq) rfl (rest := []) rfl (Nat.le_of_ble_eq_true rfl) dX1_leftBy_19 ?_
  refine b_V hf (fun V_5 hf => ?_)
  exact ri_OW hret hf dX1_leftBy_22 rfl
theorem t_X1_leftBy (l : Launch) {E : EvT} {A : Nat → Nat} {V : Nat → Nat → Int32} {L : Nat → Int64} (x1 : Int32) {r0 : Int32} {V0 : Nat → Nat → Int32} {L0 : Nat → Int64} (hq : f_X1_leftBy V L x1 = some (r0, V0, L0)) : KI l yX1_leftBy (.code yX1_leftBy cX1_leftBy 2 (some .int) :: wA) rm_X1_leftBy E (cw E A V L) (cw E A V0 L0) [.ref (A 15), .int x1] r0 := by
  refine ent_I (own := RX1) (ty := .int) (lv0 := [(0, .ref (A 15)), (1, .int x1)]) (by decide) rfl rfl (Nat.le_of_ble_eq_true rfl) rfl (cw_fst _ _ _ _ _ _) ?_
  intro X Z Q hl C K hret
  exact w_X1_leftBy_0 C K hret V L x1 hq
set_option maxRecDepth 100000 in
theorem w_X1_fewestBeats_60 {X : XT} {E : EvT} {Z : Nat → Prop} {Q : State → Prop} {A : Nat → Nat} (C : Cx X (.code yX1_fewestBeats cX1_fewestBeats 5 (some .int)) cX1_fewestBeats 5 RX1 rm_X1_fewestBeats.frames rm_X1_fewestBeats.locals) (K : Ck X E Z) {r0 : Int32} {V0 : Nat → Nat → Int32} {L0 : Nat → Int64} (hret : RI X 5 cX1_fewestBeats (IF X E Z (cw E A)) Q .int r0 (V0, L0)) (V : Nat → Nat → Int32) (L : Nat → Int64) (x1 : Int32) : ∀ (n : Nat) (x4 : Int32), f_X1_fewestBeats_60 V L x1 n x4 = some (r0, V0, L0) → Wm X 5 (IF X E Z (cw E A)) Q 60 [(0, .ref (A 15)), (1, .int x1), (4, .int x4)] [] (V, L) := by
  intro n
  induction n with
  | zero =>
    intro x4 hf
    exact none_e hf
  | succ n ih =>
    intro x4 hf
    rw [f_X1_fewestBeats_60] at hf
    refine r_iload C dX1_fewestBeats_60 2 rfl ?_
    refine r_aload_n C dX1_fewestBeats_62 0 rfl rfl ?_
    refine g_RX1_18_15 C K dX1_fewestBeats_63 ?_
    refine s_alen C K (cw_a17 E A _ _) (r := 61) (by decide) dX1_fewestBeats_66 ?_
    refine r_icmp_ge C (tgt := 90) dX1_fewestBeats_67 rfl hf (fun hf => ?_) (fun hf => ?_)
    · refine r_iconst C dX1_fewestBeats_90 ki_m1 ?_
      exact ri_OW hret hf dX1_fewestBeats_91 rfl
    · refine r_aload_n C dX1_fewestBeats_70 0 rfl rfl ?_
      refine g_RX1_18_15 C K dX1_fewestBeats_71 ?_
      refine r_iload C dX1_fewestBeats_74 2 rfl ?_
      refine s_iald C K (cw_a17 E A _ _) dX1_fewestBeats_76 hf (fun hf => ?_)
      refine r_iload_n C dX1_fewestBeats_77 1 rfl rfl ?_
      refine r_icmp_ne C (tgt := 84) dX1_fewestBeats_78 rfl hf (fun hf => ?_) (fun hf => ?_)
      · refine r_iinc C dX1_fewestBeats_84 2 rfl (kn_1 _) (Nat.le_of_ble_eq_true rfl) (lv2 := [(4, .int (x4 + 1)), (0, .ref (A 15)), (1, .int x1)]) rfl ?_
        refine r_goto C (tgt := 60) dX1_fewestBeats_87 rfl ?_
        exact r_sub [1, 2, 0] rfl (ih (x4 + 1) hf)
      · refine r_iload C dX1_fewestBeats_81 2 rfl ?_
        exact ri_OW hret hf dX1_fewestBeats_83 rfl
set_option maxRecDepth 100000 in
theorem w_X1_fewestBeats_23 {X : XT} {E : EvT} {Z : Nat → Prop} {Q : State → Prop} {A : Nat → Nat} (C : Cx X (.code yX1_fewestBeats cX1_fewestBeats 5 (some .int)) cX1_fewestBeats 5 RX1 rm_X1_fewestBeats.frames rm_X1_fewestBeats.locals) (K : Ck X E Z) {r0 : Int32} {V0 : Nat → Nat → Int32} {L0 : Nat → Int64} (hret : RI X 5 cX1_fewestBeats (IF X E Z (cw E A)) Q .int r0 (V0, L0)) (x1 : Int32) (y2 : Int64) : ∀ (n : Nat) (V : Nat → Nat → Int32) (L : Nat → Int64) (x4 : Int32), f_X1_fewestBeats_23 x1 y2 n V L x4 = some (r0, V0, L0) → Wm X 5 (IF X E Z (cw E A)) Q 23 [(0, .ref (A 15)), (1, .int x1), (2, .long y2), (4, .int x4)] [] (V, L) := by
  intro n
  induction n with
  | zero =>
    intro V L x4 hf
    exact none_e hf
  | succ n ih =>
    intro V L x4 hf
    rw [f_X1_fewestBeats_23] at hf
    refine r_iload C dX1_fewestBeats_23 3 rfl ?_
    refine r_aload_n C dX1_fewestBeats_25 0 rfl rfl ?_
    refine g_RX1_18_15 C K dX1_fewestBeats_26 ?_
    refine s_alen C K (cw_a17 E A _ _) (r := 61) (by decide) dX1_fewestBeats_29 ?_
    refine r_icmp_ge C (tgt := 52) dX1_fewestBeats_30 rfl hf (fun hf => ?_) (fun hf => ?_)
    · refine r_aload_n C dX1_fewestBeats_52 0 rfl rfl ?_
      refine r_lload_n C dX1_fewestBeats_53 2 rfl rfl ?_
      refine p_RX1_24_15 C K dX1_fewestBeats_54 hf (fun L_1 hf => ?_)
      refine r_iconst C dX1_fewestBeats_57 ki_1 ?_
      refine r_istore C dX1_fewestBeats_58 (Nat.le_of_ble_eq_true rfl) (lv2 := [(4, .int (1 : Int32)), (0, .ref (A 15)), (1, .int x1), (2, .long y2)]) rfl ?_
      exact r_sub [1, 2, 0] rfl (w_X1_fewestBeats_60 C K hret V L_1 x1 20000 (1 : Int32) hf)
    · refine r_aload_n C dX1_fewestBeats_33 0 rfl rfl ?_
      refine g_RX1_18_15 C K dX1_fewestBeats_34 ?_
      refine r_iload C dX1_fewestBeats_37 3 rfl ?_
      refine r_aload_n C dX1_fewestBeats_39 0 rfl rfl ?_
      refine r_iload C dX1_fewestBeats_40 3 rfl ?_
      refine bd3_e hf (fun r_2 V_3 L_4 hq hf => ?_)
      refine f_callI C K cal_RX1_65 ⟨rfl, rfl, Nat.le_of_ble_eq_true rfl, Nat.le_of_ble_eq_true rfl⟩ (t_X1_leftBy _ x4 hq) (cw_o15 E A _ _) rfl (cw_fst _ _ _ _ _ _) rfl (rest := [.int x4, .ref (A 17)]) rfl (Nat.le_of_ble_eq_true rfl) dX1_fewestBeats_42 ?_
      refine s_iast C K (cw_a17 E A _ _) (fun z => cw_s17 E A _ _ _) dX1_fewestBeats_45 hf (fun V_5 hf => ?_)
      refine r_iinc C dX1_fewestBeats_46 3 rfl (kn_1 _) (Nat.le_of_ble_eq_true rfl) (lv2 := [(4, .int (x4 + 1)), (0, .ref (A 15)), (1, .int x1), (2, .long y2)]) rfl ?_
      refine r_goto C (tgt := 23) dX1_fewestBeats_49 rfl ?_
      exact r_sub [1, 2, 3, 0] rfl (ih V_5 L_4 (x4 + 1) hf)
set_option maxRecDepth 100000 in
theorem w_X1_fewestBeats_0 {X : XT} {E : EvT} {Z : Nat → Prop} {Q : State → Prop} {A : Nat → Nat} (C : Cx X (.code yX1_fewestBeats cX1_fewestBeats 5 (some .int)) cX1_fewestBeats 5 RX1 rm_X1_fewestBeats.frames rm_X1_fewestBeats.locals) (K : Ck X E Z) {r0 : Int32} {V0 : Nat → Nat → Int32} {L0 : Nat → Int64} (hret : RI X 5 cX1_fewestBeats (IF X E Z (cw E A)) Q .int r0 (V0, L0)) : ∀ (V : Nat → Nat → Int32) (L : Nat → Int64) (x1 : Int32), f_X1_fewestBeats V L x1 = some (r0, V0, L0) → Wm X 5 (IF X E Z (cw E A)) Q 0 [(0, .ref (A 15)), (1, .int x1)] [] (V, L) := by
  intro V L x1 hf
  rw [f_X1_fewestBeats] at hf
  refine r_aload_n C dX1_fewestBeats_0 0 rfl rfl ?_
  refine g_RX1_37_15 C K dX1_fewestBeats_1 ?_
  refine g_RX1_41_5 C K dX1_fewestBeats_4 ?_
  refine s_callLr C K jc6 cal_RX1_61 ⟨rfl, rfl, Nat.le_of_ble_eq_true rfl, Nat.le_of_ble_eq_true rfl⟩ (t_X0_key _ jc6) rfl (rest := []) rfl (Nat.le_of_ble_eq_true rfl) dX1_fewestBeats_7 ?_
  refine r_lstore_n C dX1_fewestBeats_10 rfl (Nat.le_of_ble_eq_true rfl) (lv2 := [(2, .long (f_X0_key (V 6))), (0, .ref (A 15)), (1, .int x1)]) rfl ?_
  refine r_lload_n C dX1_fewestBeats_11 0 rfl rfl ?_
  refine r_aload_n C dX1_fewestBeats_12 1 rfl rfl ?_
  refine g_RX1_24_15 C K dX1_fewestBeats_13 ?_
  refine r_lcmp C dX1_fewestBeats_16 ?_
  refine r_if_eq C (tgt := 57) dX1_fewestBeats_17 rfl hf (fun hf => ?_) (fun hf => ?_)
  · refine r_iconst C dX1_fewestBeats_57 ki_1 ?_
    refine r_istore C dX1_fewestBeats_58 (Nat.le_of_ble_eq_true rfl) (lv2 := [(4, .int (1 : Int32)), (2, .long (f_X0_key (V 6))), (0, .ref (A 15)), (1, .int x1)]) rfl ?_
    exact r_sub [2, 3, 0] rfl (w_X1_fewestBeats_60 C K hret V L x1 20000 (1 : Int32) hf)
  · refine r_iconst C dX1_fewestBeats_20 ki_1 ?_
    refine r_istore C dX1_fewestBeats_21 (Nat.le_of_ble_eq_true rfl) (lv2 := [(4, .int (1 : Int32)), (2, .long (f_X0_key (V 6))), (0, .ref (A 15)), (1, .int x1)]) rfl ?_
    exact r_sub [2, 3, 1, 0] rfl (w_X1_fewestBeats_23 C K hret x1 (f_X0_key (V 6)) 20000 V L (1 : Int32) hf)
theorem t_X1_fewestBeats (l : Launch) {E : EvT} {A : Nat → Nat} {V : Nat → Nat → Int32} {L : Nat → Int64} (x1 : Int32) {r0 : Int32} {V0 : Nat → Nat → Int32} {L0 : Nat → Int64} (hq : f_X1_fewestBeats V L x1 = some (r0, V0, L0)) : KI l yX1_fewestBeats (.code yX1_fewestBeats cX1_fewestBeats 5 (some .int) :: wA) rm_X1_fewestBeats E (cw E A V L) (cw E A V0 L0) [.ref (A 15), .int x1] r0 := by
  refine ent_I (own := RX1) (ty := .int) (lv0 := [(0, .ref (A 15)), (1, .int x1)]) (by decide) rfl rfl (Nat.le_of_ble_eq_true rfl) rfl (cw_fst _ _ _ _ _ _) ?_
  intro X Z Q hl C K hret
  exact w_X1_fewestBeats_0 C K hret V L x1 hq
set_option maxRecDepth 100000 in
theorem w_X1_outBy_0 {X : XT} {E : EvT} {Z : Nat → Prop} {Q : State → Prop} {A : Nat → Nat} (C : Cx X (.code yX1_outBy cX1_outBy 3 (some .int)) cX1_outBy 3 RX1 rm_X1_outBy.frames rm_X1_outBy.locals) (K : Ck X E Z) {r0 : Int32} {V0 : Nat → Nat → Int32} {L0 : Nat → Int64} (hret : RI X 3 cX1_outBy (IF X E Z (cw E A)) Q .int r0 (V0, L0)) : ∀ (V : Nat → Nat → Int32) (L : Nat → Int64) (x1 : Int32) (x2 : Int32), f_X1_outBy V L x1 x2 = some (r0, V0, L0) → Wm X 3 (IF X E Z (cw E A)) Q 0 [(0, .ref (A 15)), (1, .int x1), (2, .int x2)] [] (V, L) := by
  intro V L x1 x2 hf
  rw [f_X1_outBy] at hf
  refine r_aload_n C dX1_outBy_0 0 rfl rfl ?_
  refine g_RX1_12_15 C K dX1_outBy_1 ?_
  refine r_aload_n C dX1_outBy_4 0 rfl rfl ?_
  refine g_RX1_37_15 C K dX1_outBy_5 ?_
  refine g_RX1_41_5 C K dX1_outBy_8 ?_
  refine bd1_e hf (fun c_1 hq hf => ?_)
  refine s_callV C K jc16 cal_RX1_46 ⟨rfl, rfl, Nat.le_of_ble_eq_true rfl, Nat.le_of_ble_eq_true rfl⟩ (t_X0_takeAll _ jc16 jc6 (by decide) hq) rfl (rest := []) rfl (Nat.le_of_ble_eq_true rfl) dX1_outBy_11 ?_
  refine b_V hf (fun V_2 hf => ?_)
  refine r_aload_n C dX1_outBy_14 0 rfl rfl ?_
  refine g_RX1_12_15 C K dX1_outBy_15 ?_
  refine r_iload_n C dX1_outBy_18 1 rfl rfl ?_
  refine p_RX1_50_16 C K dX1_outBy_19 hf (fun V_3 hf => ?_)
  refine r_aload_n C dX1_outBy_22 0 rfl rfl ?_
  refine g_RX1_12_15 C K dX1_outBy_23 ?_
  refine r_iload_n C dX1_outBy_26 2 rfl rfl ?_
  refine bd2_e hf (fun r_4 c_5 hq hf => ?_)
  refine s_callI C K jc16 cal_RX1_54 ⟨rfl, rfl, Nat.le_of_ble_eq_true rfl, Nat.le_of_ble_eq_true rfl⟩ (t_X0_putOut _ jc16 x2 hq) rfl (rest := []) rfl (Nat.le_of_ble_eq_true rfl) dX1_outBy_27 ?_
  refine b_V hf (fun V_6 hf => ?_)
  exact ri_OW hret hf dX1_outBy_30 rfl
theorem t_X1_outBy (l : Launch) {E : EvT} {A : Nat → Nat} {V : Nat → Nat → Int32} {L : Nat → Int64} (x1 : Int32) (x2 : Int32) {r0 : Int32} {V0 : Nat → Nat → Int32} {L0 : Nat → Int64} (hq : f_X1_outBy V L x1 x2 = some (r0, V0, L0)) : KI l yX1_outBy (.code yX1_outBy cX1_outBy 3 (some .int) :: wA) rm_X1_outBy E (cw E A V L) (cw E A V0 L0) [.ref (A 15), .int x1, .int x2] r0 := by
  refine ent_I (own := RX1) (ty := .int) (lv0 := [(0, .ref (A 15)), (1, .int x1), (2, .int x2)]) (by decide) rfl rfl (Nat.le_of_ble_eq_true rfl) rfl (cw_fst _ _ _ _ _ _) ?_
  intro X Z Q hl C K hret
  exact w_X1_outBy_0 C K hret V L x1 x2 hq
set_option maxRecDepth 100000 in
theorem w_X1_startsFor_5 {X : XT} {E : EvT} {Z : Nat → Prop} {Q : State → Prop} {A : Nat → Nat} (C : Cx X (.code yX1_startsFor cX1_startsFor 5 (some .int)) cX1_startsFor 5 RX1 rm_X1_startsFor.frames rm_X1_startsFor.locals) (K : Ck X E Z) {r0 : Int32} {V0 : Nat → Nat → Int32} {L0 : Nat → Int64} (hret : RI X 5 cX1_startsFor (IF X E Z (cw E A)) Q .int r0 (V0, L0)) (x1 : Int32) (x2 : Int32) : ∀ (n : Nat) (V : Nat → Nat → Int32) (L : Nat → Int64) (x3 : Int32) (x4 : Int32), f_X1_startsFor_5 x1 x2 n V L x3 x4 = some (r0, V0, L0) → Wm X 5 (IF X E Z (cw E A)) Q 5 [(0, .ref (A 15)), (1, .int x1), (2, .int x2), (3, .int x3), (4, .int x4)] [] (V, L) := by
  intro n
  induction n with
  | zero =>
    intro V L x3 x4 hf
    exact none_e hf
  | succ n ih =>
    intro V L x3 x4 hf
    rw [f_X1_startsFor_5] at hf
    refine r_iload C dX1_startsFor_5 4 rfl ?_
    refine r_aload_n C dX1_startsFor_7 0 rfl rfl ?_
    refine g_RX1_37_15 C K dX1_startsFor_8 ?_
    refine g_RX1_41_5 C K dX1_startsFor_11 ?_
    refine g_RX1_68_6 C K dX1_startsFor_14 ?_
    refine r_icmp_ge C (tgt := 87) dX1_startsFor_17 rfl hf (fun hf => ?_) (fun hf => ?_)
    · refine r_iload_n C dX1_startsFor_87 3 rfl rfl ?_
      exact ri_OW hret hf dX1_startsFor_88 rfl
    · refine r_aload_n C dX1_startsFor_20 0 rfl rfl ?_
      refine g_RX1_37_15 C K dX1_startsFor_21 ?_
      refine g_RX1_41_5 C K dX1_startsFor_24 ?_
      refine r_iload C dX1_startsFor_27 4 rfl ?_
      refine s_callIr C K jc6 cal_RX1_71 ⟨rfl, rfl, Nat.le_of_ble_eq_true rfl, Nat.le_of_ble_eq_true rfl⟩ (t_X0_isIn _ jc6 x4) rfl (rest := []) rfl (Nat.le_of_ble_eq_true rfl) dX1_startsFor_29 ?_
      refine r_if_eq C (tgt := 81) dX1_startsFor_32 rfl hf (fun hf => ?_) (fun hf => ?_)
      · refine r_iinc C dX1_startsFor_81 4 rfl (kn_1 _) (Nat.le_of_ble_eq_true rfl) (lv2 := [(4, .int (x4 + 1)), (0, .ref (A 15)), (1, .int x1), (2, .int x2), (3, .int x3)]) rfl ?_
        refine r_goto C (tgt := 5) dX1_startsFor_84 rfl ?_
        exact r_sub [1, 2, 3, 4, 0] rfl (ih V L x3 (x4 + 1) hf)
      · refine r_aload_n C dX1_startsFor_35 0 rfl rfl ?_
        refine g_RX1_12_15 C K dX1_startsFor_36 ?_
        refine r_aload_n C dX1_startsFor_39 0 rfl rfl ?_
        refine g_RX1_37_15 C K dX1_startsFor_40 ?_
        refine g_RX1_41_5 C K dX1_startsFor_43 ?_
        refine bd1_e hf (fun c_1 hq hf => ?_)
        refine s_callV C K jc16 cal_RX1_46 ⟨rfl, rfl, Nat.le_of_ble_eq_true rfl, Nat.le_of_ble_eq_true rfl⟩ (t_X0_takeAll _ jc16 jc6 (by decide) hq) rfl (rest := []) rfl (Nat.le_of_ble_eq_true rfl) dX1_startsFor_46 ?_
        refine b_V hf (fun V_2 hf => ?_)
        refine r_aload_n C dX1_startsFor_49 0 rfl rfl ?_
        refine g_RX1_12_15 C K dX1_startsFor_50 ?_
        refine r_iload C dX1_startsFor_53 4 rfl ?_
        refine p_RX1_50_16 C K dX1_startsFor_55 hf (fun V_3 hf => ?_)
        refine r_iload_n C dX1_startsFor_58 3 rfl rfl ?_
        refine r_aload_n C dX1_startsFor_59 0 rfl rfl ?_
        refine g_RX1_12_15 C K dX1_startsFor_60 ?_
        refine r_iload_n C dX1_startsFor_63 2 rfl rfl ?_
        refine bd2_e hf (fun r_4 c_5 hq hf => ?_)
        refine s_callI C K jc16 cal_RX1_58 ⟨rfl, rfl, Nat.le_of_ble_eq_true rfl, Nat.le_of_ble_eq_true rfl⟩ (t_X0_countDown _ jc16 x2 hq) rfl (rest := [.int x3]) rfl (Nat.le_of_ble_eq_true rfl) dX1_startsFor_64 ?_
        refine b_V hf (fun V_6 hf => ?_)
        refine r_iload_n C dX1_startsFor_67 1 rfl rfl ?_
        refine r_icmp_ne C (tgt := 78) dX1_startsFor_68 rfl hf (fun hf => ?_) (fun hf => ?_)
        · refine r_iconst C dX1_startsFor_78 ki_0 ?_
          refine r_ior C dX1_startsFor_79 ?_
          refine r_istore_n C dX1_startsFor_80 rfl (Nat.le_of_ble_eq_true rfl) (lv2 := [(3, .int (x3 ||| (0 : Int32))), (0, .ref (A 15)), (1, .int x1), (2, .int x2), (4, .int x4)]) rfl ?_
          refine r_iinc C dX1_startsFor_81 4 rfl (kn_1 _) (Nat.le_of_ble_eq_true rfl) (lv2 := [(4, .int (x4 + 1)), (3, .int (x3 ||| (0 : Int32))), (0, .ref (A 15)), (1, .int x1), (2, .int x2)]) rfl ?_
          refine r_goto C (tgt := 5) dX1_startsFor_84 rfl ?_
          exact r_sub [2, 3, 4, 1, 0] rfl (ih V_6 L (x3 ||| (0 : Int32)) (x4 + 1) hf)
        · refine r_iconst C dX1_startsFor_71 ki_1 ?_
          refine r_iload C dX1_startsFor_72 4 rfl ?_
          refine p_ishl C dX1_startsFor_74 ?_
          refine r_goto C (tgt := 79) dX1_startsFor_75 rfl ?_
          refine r_ior C dX1_startsFor_79 ?_
          refine r_istore_n C dX1_startsFor_80 rfl (Nat.le_of_ble_eq_true rfl) (lv2 := [(3, .int (x3 ||| (ishl (1 : Int32) x4))), (0, .ref (A 15)), (1, .int x1), (2, .int x2), (4, .int x4)]) rfl ?_
          refine r_iinc C dX1_startsFor_81 4 rfl (kn_1 _) (Nat.le_of_ble_eq_true rfl) (lv2 := [(4, .int (x4 + 1)), (3, .int (x3 ||| (ishl (1 : Int32) x4))), (0, .ref (A 15)), (1, .int x1), (2, .int x2)]) rfl ?_
          refine r_goto C (tgt := 5) dX1_startsFor_84 rfl ?_
          exact r_sub [2, 3, 4, 1, 0] rfl (ih V_6 L (x3 ||| (ishl (1 : Int32) x4)) (x4 + 1) hf)
set_option maxRecDepth 100000 in
theorem w_X1_startsFor_0 {X : XT} {E : EvT} {Z : Nat → Prop} {Q : State → Prop} {A : Nat → Nat} (C : Cx X (.code yX1_startsFor cX1_startsFor 5 (some .int)) cX1_startsFor 5 RX1 rm_X1_startsFor.frames rm_X1_startsFor.locals) (K : Ck X E Z) {r0 : Int32} {V0 : Nat → Nat → Int32} {L0 : Nat → Int64} (hret : RI X 5 cX1_startsFor (IF X E Z (cw E A)) Q .int r0 (V0, L0)) : ∀ (V : Nat → Nat → Int32) (L : Nat → Int64) (x1 : Int32) (x2 : Int32), f_X1_startsFor V L x1 x2 = some (r0, V0, L0) → Wm X 5 (IF X E Z (cw E A)) Q 0 [(0, .ref (A 15)), (1, .int x1), (2, .int x2)] [] (V, L) := by
  intro V L x1 x2 hf
  rw [f_X1_startsFor] at hf
  refine r_iconst C dX1_startsFor_0 ki_0 ?_
  refine r_istore_n C dX1_startsFor_1 rfl (Nat.le_of_ble_eq_true rfl) (lv2 := [(3, .int (0 : Int32)), (0, .ref (A 15)), (1, .int x1), (2, .int x2)]) rfl ?_
  refine r_iconst C dX1_startsFor_2 ki_0 ?_
  refine r_istore C dX1_startsFor_3 (Nat.le_of_ble_eq_true rfl) (lv2 := [(4, .int (0 : Int32)), (3, .int (0 : Int32)), (0, .ref (A 15)), (1, .int x1), (2, .int x2)]) rfl ?_
  exact r_sub [2, 3, 4, 1, 0] rfl (w_X1_startsFor_5 C K hret x1 x2 20000 V L (0 : Int32) (0 : Int32) hf)
theorem t_X1_startsFor (l : Launch) {E : EvT} {A : Nat → Nat} {V : Nat → Nat → Int32} {L : Nat → Int64} (x1 : Int32) (x2 : Int32) {r0 : Int32} {V0 : Nat → Nat → Int32} {L0 : Nat → Int64} (hq : f_X1_startsFor V L x1 x2 = some (r0, V0, L0)) : KI l yX1_startsFor (.code yX1_startsFor cX1_startsFor 5 (some .int) :: wA) rm_X1_startsFor E (cw E A V L) (cw E A V0 L0) [.ref (A 15), .int x1, .int x2] r0 := by
  refine ent_I (own := RX1) (ty := .int) (lv0 := [(0, .ref (A 15)), (1, .int x1), (2, .int x2)]) (by decide) rfl rfl (Nat.le_of_ble_eq_true rfl) rfl (cw_fst _ _ _ _ _ _) ?_
  intro X Z Q hl C K hret
  exact w_X1_startsFor_0 C K hret V L x1 x2 hq
set_option maxRecDepth 100000 in
theorem w_X1_placesFor_5 {X : XT} {E : EvT} {Z : Nat → Prop} {Q : State → Prop} {A : Nat → Nat} (C : Cx X (.code yX1_placesFor cX1_placesFor 5 (some .int)) cX1_placesFor 5 RX1 rm_X1_placesFor.frames rm_X1_placesFor.locals) (K : Ck X E Z) {r0 : Int32} {V0 : Nat → Nat → Int32} {L0 : Nat → Int64} (hret : RI X 5 cX1_placesFor (IF X E Z (cw E A)) Q .int r0 (V0, L0)) (x1 : Int32) (x2 : Int32) : ∀ (n : Nat) (V : Nat → Nat → Int32) (L : Nat → Int64) (x3 : Int32) (x4 : Int32), f_X1_placesFor_5 x1 x2 n V L x3 x4 = some (r0, V0, L0) → Wm X 5 (IF X E Z (cw E A)) Q 5 [(0, .ref (A 15)), (1, .int x1), (2, .int x2), (3, .int x3), (4, .int x4)] [] (V, L) := by
  intro n
  induction n with
  | zero =>
    intro V L x3 x4 hf
    exact none_e hf
  | succ n ih =>
    intro V L x3 x4 hf
    rw [f_X1_placesFor_5] at hf
    refine r_iload C dX1_placesFor_5 4 rfl ?_
    refine r_aload_n C dX1_placesFor_7 0 rfl rfl ?_
    refine g_RX1_37_15 C K dX1_placesFor_8 ?_
    refine g_RX1_41_5 C K dX1_placesFor_11 ?_
    refine g_RX1_68_6 C K dX1_placesFor_14 ?_
    refine r_icmp_gt C (tgt := 74) dX1_placesFor_17 rfl hf (fun hf => ?_) (fun hf => ?_)
    · refine r_iload_n C dX1_placesFor_74 3 rfl rfl ?_
      exact ri_OW hret hf dX1_placesFor_75 rfl
    · refine r_aload_n C dX1_placesFor_20 0 rfl rfl ?_
      refine g_RX1_12_15 C K dX1_placesFor_21 ?_
      refine r_aload_n C dX1_placesFor_24 0 rfl rfl ?_
      refine g_RX1_37_15 C K dX1_placesFor_25 ?_
      refine g_RX1_41_5 C K dX1_placesFor_28 ?_
      refine bd1_e hf (fun c_1 hq hf => ?_)
      refine s_callV C K jc16 cal_RX1_46 ⟨rfl, rfl, Nat.le_of_ble_eq_true rfl, Nat.le_of_ble_eq_true rfl⟩ (t_X0_takeAll _ jc16 jc6 (by decide) hq) rfl (rest := []) rfl (Nat.le_of_ble_eq_true rfl) dX1_placesFor_31 ?_
      refine b_V hf (fun V_2 hf => ?_)
      refine r_aload_n C dX1_placesFor_34 0 rfl rfl ?_
      refine g_RX1_12_15 C K dX1_placesFor_35 ?_
      refine r_iload C dX1_placesFor_38 4 rfl ?_
      refine r_iload_n C dX1_placesFor_40 1 rfl rfl ?_
      refine s_callV C K jc16 cal_RX1_75 ⟨rfl, rfl, Nat.le_of_ble_eq_true rfl, Nat.le_of_ble_eq_true rfl⟩ (t_X0_addAhead _ jc16 x4 x1) rfl (rest := []) rfl (Nat.le_of_ble_eq_true rfl) dX1_placesFor_41 ?_
      refine b_V hf (fun V_4 hf => ?_)
      refine r_iload_n C dX1_placesFor_44 3 rfl rfl ?_
      refine r_aload_n C dX1_placesFor_45 0 rfl rfl ?_
      refine g_RX1_12_15 C K dX1_placesFor_46 ?_
      refine r_iload_n C dX1_placesFor_49 2 rfl rfl ?_
      refine bd2_e hf (fun r_5 c_6 hq hf => ?_)
      refine s_callI C K jc16 cal_RX1_58 ⟨rfl, rfl, Nat.le_of_ble_eq_true rfl, Nat.le_of_ble_eq_true rfl⟩ (t_X0_countDown _ jc16 x2 hq) rfl (rest := [.int x3]) rfl (Nat.le_of_ble_eq_true rfl) dX1_placesFor_50 ?_
      refine b_V hf (fun V_7 hf => ?_)
      refine r_iload C dX1_placesFor_53 4 rfl ?_
      refine r_icmp_ne C (tgt := 65) dX1_placesFor_55 rfl hf (fun hf => ?_) (fun hf => ?_)
      · refine r_iconst C dX1_placesFor_65 ki_0 ?_
        refine r_ior C dX1_placesFor_66 ?_
        refine r_istore_n C dX1_placesFor_67 rfl (Nat.le_of_ble_eq_true rfl) (lv2 := [(3, .int (x3 ||| (0 : Int32))), (0, .ref (A 15)), (1, .int x1), (2, .int x2), (4, .int x4)]) rfl ?_
        refine r_iinc C dX1_placesFor_68 4 rfl (kn_1 _) (Nat.le_of_ble_eq_true rfl) (lv2 := [(4, .int (x4 + 1)), (3, .int (x3 ||| (0 : Int32))), (0, .ref (A 15)), (1, .int x1), (2, .int x2)]) rfl ?_
        refine r_goto C (tgt := 5) dX1_placesFor_71 rfl ?_
        exact r_sub [2, 3, 4, 1, 0] rfl (ih V_7 L (x3 ||| (0 : Int32)) (x4 + 1) hf)
      · refine r_iconst C dX1_placesFor_58 ki_1 ?_
        refine r_iload C dX1_placesFor_59 4 rfl ?_
        refine p_ishl C dX1_placesFor_61 ?_
        refine r_goto C (tgt := 66) dX1_placesFor_62 rfl ?_
        refine r_ior C dX1_placesFor_66 ?_
        refine r_istore_n C dX1_placesFor_67 rfl (Nat.le_of_ble_eq_true rfl) (lv2 := [(3, .int (x3 ||| (ishl (1 : Int32) x4))), (0, .ref (A 15)), (1, .int x1), (2, .int x2), (4, .int x4)]) rfl ?_
        refine r_iinc C dX1_placesFor_68 4 rfl (kn_1 _) (Nat.le_of_ble_eq_true rfl) (lv2 := [(4, .int (x4 + 1)), (3, .int (x3 ||| (ishl (1 : Int32) x4))), (0, .ref (A 15)), (1, .int x1), (2, .int x2)]) rfl ?_
        refine r_goto C (tgt := 5) dX1_placesFor_71 rfl ?_
        exact r_sub [2, 3, 4, 1, 0] rfl (ih V_7 L (x3 ||| (ishl (1 : Int32) x4)) (x4 + 1) hf)
set_option maxRecDepth 100000 in
theorem w_X1_placesFor_0 {X : XT} {E : EvT} {Z : Nat → Prop} {Q : State → Prop} {A : Nat → Nat} (C : Cx X (.code yX1_placesFor cX1_placesFor 5 (some .int)) cX1_placesFor 5 RX1 rm_X1_placesFor.frames rm_X1_placesFor.locals) (K : Ck X E Z) {r0 : Int32} {V0 : Nat → Nat → Int32} {L0 : Nat → Int64} (hret : RI X 5 cX1_placesFor (IF X E Z (cw E A)) Q .int r0 (V0, L0)) : ∀ (V : Nat → Nat → Int32) (L : Nat → Int64) (x1 : Int32) (x2 : Int32), f_X1_placesFor V L x1 x2 = some (r0, V0, L0) → Wm X 5 (IF X E Z (cw E A)) Q 0 [(0, .ref (A 15)), (1, .int x1), (2, .int x2)] [] (V, L) := by
  intro V L x1 x2 hf
  rw [f_X1_placesFor] at hf
  refine r_iconst C dX1_placesFor_0 ki_0 ?_
  refine r_istore_n C dX1_placesFor_1 rfl (Nat.le_of_ble_eq_true rfl) (lv2 := [(3, .int (0 : Int32)), (0, .ref (A 15)), (1, .int x1), (2, .int x2)]) rfl ?_
  refine r_iconst C dX1_placesFor_2 ki_0 ?_
  refine r_istore C dX1_placesFor_3 (Nat.le_of_ble_eq_true rfl) (lv2 := [(4, .int (0 : Int32)), (3, .int (0 : Int32)), (0, .ref (A 15)), (1, .int x1), (2, .int x2)]) rfl ?_
  exact r_sub [2, 3, 4, 1, 0] rfl (w_X1_placesFor_5 C K hret x1 x2 20000 V L (0 : Int32) (0 : Int32) hf)
theorem t_X1_placesFor (l : Launch) {E : EvT} {A : Nat → Nat} {V : Nat → Nat → Int32} {L : Nat → Int64} (x1 : Int32) (x2 : Int32) {r0 : Int32} {V0 : Nat → Nat → Int32} {L0 : Nat → Int64} (hq : f_X1_placesFor V L x1 x2 = some (r0, V0, L0)) : KI l yX1_placesFor (.code yX1_placesFor cX1_placesFor 5 (some .int) :: wA) rm_X1_placesFor E (cw E A V L) (cw E A V0 L0) [.ref (A 15), .int x1, .int x2] r0 := by
  refine ent_I (own := RX1) (ty := .int) (lv0 := [(0, .ref (A 15)), (1, .int x1), (2, .int x2)]) (by decide) rfl rfl (Nat.le_of_ble_eq_true rfl) rfl (cw_fst _ _ _ _ _ _) ?_
  intro X Z Q hl C K hret
  exact w_X1_placesFor_0 C K hret V L x1 x2 hq
set_option maxRecDepth 100000 in
theorem w_X1_worth_16 {X : XT} {E : EvT} {Z : Nat → Prop} {Q : State → Prop} {A : Nat → Nat} {fr lo : Nat} (C : Cx X (.code yX1_worth cX1_worth 10 (some .int)) cX1_worth 10 RX1 fr lo) (hfr : 3 ≤ fr) (hlo : 72 ≤ lo) (K : Ck X E Z) {rmr : Room} (hrr : Rmf rmr 10 fr lo) {rc : (Nat → Nat → Int32) → (Nat → Int64) → Int32 → Int32 → Int32 → Option (Int32 × (Nat → Nat → Int32) × (Nat → Int64))} (hrec : ∀ {V : Nat → Nat → Int32} {L : Nat → Int64} (x1 : Int32) (x2 : Int32) (x3 : Int32) {r0 : Int32} {V0 : Nat → Nat → Int32} {L0 : Nat → Int64}, rc V L x1 x2 x3 = some (r0, V0, L0) → KI X.2.1 yX1_worth (.code yX1_worth cX1_worth 10 (some .int) :: wA) rmr E (cw E A V L) (cw E A V0 L0) [.ref (A 15), .int x1, .int x2, .int x3] r0) {r0 : Int32} {V0 : Nat → Nat → Int32} {L0 : Nat → Int64} (hret : RI X 10 cX1_worth (IF X E Z (cw E A)) Q .int r0 (V0, L0)) : ∀ (V : Nat → Nat → Int32) (L : Nat → Int64), f_X1_worth_16 rc V L = some (r0, V0, L0) → Wm X 10 (IF X E Z (cw E A)) Q 16 [(0, .ref (A 15))] [] (V, L) := by
  intro V L hf
  rw [f_X1_worth_16] at hf
  refine r_aload_n C dX1_worth_16 0 rfl rfl ?_
  refine r_iconst C dX1_worth_17 ki_m1 ?_
  refine p_RX1_83_15 C K dX1_worth_18 hf (fun V_1 hf => ?_)
  refine r_iconst C dX1_worth_21 ki_1 ?_
  exact ri_OW hret hf dX1_worth_22 rfl
set_option maxRecDepth 100000 in
theorem w_X1_worth_121 {X : XT} {E : EvT} {Z : Nat → Prop} {Q : State → Prop} {A : Nat → Nat} {fr lo : Nat} (C : Cx X (.code yX1_worth cX1_worth 10 (some .int)) cX1_worth 10 RX1 fr lo) (hfr : 3 ≤ fr) (hlo : 72 ≤ lo) (K : Ck X E Z) {rmr : Room} (hrr : Rmf rmr 10 fr lo) {rc : (Nat → Nat → Int32) → (Nat → Int64) → Int32 → Int32 → Int32 → Option (Int32 × (Nat → Nat → Int32) × (Nat → Int64))} (hrec : ∀ {V : Nat → Nat → Int32} {L : Nat → Int64} (x1 : Int32) (x2 : Int32) (x3 : Int32) {r0 : Int32} {V0 : Nat → Nat → Int32} {L0 : Nat → Int64}, rc V L x1 x2 x3 = some (r0, V0, L0) → KI X.2.1 yX1_worth (.code yX1_worth cX1_worth 10 (some .int) :: wA) rmr E (cw E A V L) (cw E A V0 L0) [.ref (A 15), .int x1, .int x2, .int x3] r0) {r0 : Int32} {V0 : Nat → Nat → Int32} {L0 : Nat → Int64} (hret : RI X 10 cX1_worth (IF X E Z (cw E A)) Q .int r0 (V0, L0)) {k41 : (Nat → Nat → Int32) → (Nat → Int64) → Int32 → Int32 → Int32 → Option (Int32 × (Nat → Nat → Int32) × (Nat → Int64))} {x1 : Int32} {x2 : Int32} {x3 : Int32} {x4 : Int32} (hk41 : ∀ (V : Nat → Nat → Int32) (L : Nat → Int64) (x5 : Int32) (x6 : Int32) (x7 : Int32), k41 V L x5 x6 x7 = some (r0, V0, L0) → Wm X 10 (IF X E Z (cw E A)) Q 41 [(0, .ref (A 15)), (1, .int x1), (2, .int x2), (3, .int x3), (4, .int x4), (5, .int x5), (6, .int x6), (7, .int x7)] [] (V, L)) : ∀ (V : Nat → Nat → Int32) (L : Nat → Int64) (x5 : Int32) (x6 : Int32) (x7 : Int32) (x9 : Int32), f_X1_worth_121 rc k41 V L x1 x2 x3 x4 x5 x6 x7 x9 = some (r0, V0, L0) → Wm X 10 (IF X E Z (cw E A)) Q 121 [(0, .ref (A 15)), (1, .int x1), (2, .int x2), (3, .int x3), (4, .int x4), (5, .int x5), (6, .int x6), (7, .int x7), (9, .int x9)] [] (V, L) := by
  intro V L x5 x6 x7 x9 hf
  rw [f_X1_worth_121] at hf
  refine r_aload_n C dX1_worth_121 0 rfl rfl ?_
  refine g_RX1_12_15 C K dX1_worth_122 ?_
  refine r_iload C dX1_worth_125 4 rfl ?_
  refine s_callV C K jc16 cal_RX1_100 ⟨rfl, rfl, Nat.le_trans (Nat.le_of_ble_eq_true rfl) hfr, Nat.le_trans (Nat.le_of_ble_eq_true rfl) hlo⟩ (t_X0_takePose _ jc16 x4) rfl (rest := []) rfl (Nat.le_of_ble_eq_true rfl) dX1_worth_127 ?_
  refine b_V hf (fun V_2 hf => ?_)
  refine r_iload C dX1_worth_130 8 rfl ?_
  refine r_iload C dX1_worth_132 5 rfl ?_
  refine r_icmp_le C (tgt := 145) dX1_worth_134 rfl hf (fun hf => ?_) (fun hf => ?_)
  · refine r_iinc C dX1_worth_145 7 rfl (kn_1 _) (Nat.le_of_ble_eq_true rfl) (lv2 := [(7, .int (x7 + 1)), (0, .ref (A 15)), (1, .int x1), (2, .int x2), (3, .int x3), (4, .int x4), (5, .int x5), (6, .int x6), (9, .int x9)]) rfl ?_
    refine r_goto C (tgt := 41) dX1_worth_148 rfl ?_
    exact r_sub [1, 2, 3, 4, 5, 6, 7, 0] rfl (hk41 V_2 L x5 x6 (x7 + 1) hf)
  · refine r_iload C dX1_worth_137 8 rfl ?_
    refine r_istore C dX1_worth_139 (Nat.le_of_ble_eq_true rfl) (lv2 := [(5, .int x9), (0, .ref (A 15)), (1, .int x1), (2, .int x2), (3, .int x3), (4, .int x4), (6, .int x6), (7, .int x7), (9, .int x9)]) rfl ?_
    refine r_iload C dX1_worth_141 7 rfl ?_
    refine r_istore C dX1_worth_143 (Nat.le_of_ble_eq_true rfl) (lv2 := [(6, .int x7), (5, .int x9), (0, .ref (A 15)), (1, .int x1), (2, .int x2), (3, .int x3), (4, .int x4), (7, .int x7), (9, .int x9)]) rfl ?_
    refine r_iinc C dX1_worth_145 7 rfl (kn_1 _) (Nat.le_of_ble_eq_true rfl) (lv2 := [(7, .int (x7 + 1)), (6, .int x7), (5, .int x9), (0, .ref (A 15)), (1, .int x1), (2, .int x2), (3, .int x3), (4, .int x4), (9, .int x9)]) rfl ?_
    refine r_goto C (tgt := 41) dX1_worth_148 rfl ?_
    exact r_sub [3, 4, 5, 6, 7, 2, 1, 0] rfl (hk41 V_2 L x9 x7 (x7 + 1) hf)
set_option maxRecDepth 100000 in
theorem w_X1_worth_151 {X : XT} {E : EvT} {Z : Nat → Prop} {Q : State → Prop} {A : Nat → Nat} {fr lo : Nat} (C : Cx X (.code yX1_worth cX1_worth 10 (some .int)) cX1_worth 10 RX1 fr lo) (hfr : 3 ≤ fr) (hlo : 72 ≤ lo) (K : Ck X E Z) {rmr : Room} (hrr : Rmf rmr 10 fr lo) {rc : (Nat → Nat → Int32) → (Nat → Int64) → Int32 → Int32 → Int32 → Option (Int32 × (Nat → Nat → Int32) × (Nat → Int64))} (hrec : ∀ {V : Nat → Nat → Int32} {L : Nat → Int64} (x1 : Int32) (x2 : Int32) (x3 : Int32) {r0 : Int32} {V0 : Nat → Nat → Int32} {L0 : Nat → Int64}, rc V L x1 x2 x3 = some (r0, V0, L0) → KI X.2.1 yX1_worth (.code yX1_worth cX1_worth 10 (some .int) :: wA) rmr E (cw E A V L) (cw E A V0 L0) [.ref (A 15), .int x1, .int x2, .int x3] r0) {r0 : Int32} {V0 : Nat → Nat → Int32} {L0 : Nat → Int64} (hret : RI X 10 cX1_worth (IF X E Z (cw E A)) Q .int r0 (V0, L0)) : ∀ (V : Nat → Nat → Int32) (L : Nat → Int64) (x5 : Int32) (x6 : Int32), f_X1_worth_151 rc V L x5 x6 = some (r0, V0, L0) → Wm X 10 (IF X E Z (cw E A)) Q 151 [(0, .ref (A 15)), (5, .int x5), (6, .int x6)] [] (V, L) := by
  intro V L x5 x6 hf
  rw [f_X1_worth_151] at hf
  refine r_aload_n C dX1_worth_151 0 rfl rfl ?_
  refine r_iload C dX1_worth_152 2 rfl ?_
  refine p_RX1_83_15 C K dX1_worth_154 hf (fun V_1 hf => ?_)
  refine r_iload C dX1_worth_157 1 rfl ?_
  exact ri_OW hret hf dX1_worth_159 rfl
set_option maxRecDepth 100000 in
theorem w_X1_worth_41 {X : XT} {E : EvT} {Z : Nat → Prop} {Q : State → Prop} {A : Nat → Nat} {fr lo : Nat} (C : Cx X (.code yX1_worth cX1_worth 10 (some .int)) cX1_worth 10 RX1 fr lo) (hfr : 3 ≤ fr) (hlo : 72 ≤ lo) (K : Ck X E Z) {rmr : Room} (hrr : Rmf rmr 10 fr lo) {rc : (Nat → Nat → Int32) → (Nat → Int64) → Int32 → Int32 → Int32 → Option (Int32 × (Nat → Nat → Int32) × (Nat → Int64))} (hrec : ∀ {V : Nat → Nat → Int32} {L : Nat → Int64} (x1 : Int32) (x2 : Int32) (x3 : Int32) {r0 : Int32} {V0 : Nat → Nat → Int32} {L0 : Nat → Int64}, rc V L x1 x2 x3 = some (r0, V0, L0) → KI X.2.1 yX1_worth (.code yX1_worth cX1_worth 10 (some .int) :: wA) rmr E (cw E A V L) (cw E A V0 L0) [.ref (A 15), .int x1, .int x2, .int x3] r0) {r0 : Int32} {V0 : Nat → Nat → Int32} {L0 : Nat → Int64} (hret : RI X 10 cX1_worth (IF X E Z (cw E A)) Q .int r0 (V0, L0)) (x1 : Int32) (x2 : Int32) (x3 : Int32) (x4 : Int32) : ∀ (n : Nat) (V : Nat → Nat → Int32) (L : Nat → Int64) (x5 : Int32) (x6 : Int32) (x7 : Int32), f_X1_worth_41 rc x1 x2 x3 x4 n V L x5 x6 x7 = some (r0, V0, L0) → Wm X 10 (IF X E Z (cw E A)) Q 41 [(0, .ref (A 15)), (1, .int x1), (2, .int x2), (3, .int x3), (4, .int x4), (5, .int x5), (6, .int x6), (7, .int x7)] [] (V, L) := by
  intro n
  induction n with
  | zero =>
    intro V L x5 x6 x7 hf
    exact none_e hf
  | succ n ih =>
    intro V L x5 x6 x7 hf
    rw [f_X1_worth_41] at hf
    refine r_iload C dX1_worth_41 7 rfl ?_
    refine r_iconst C dX1_worth_43 ki_3 ?_
    refine r_icmp_ge C (tgt := 151) dX1_worth_44 rfl hf (fun hf => ?_) (fun hf => ?_)
    · exact r_sub [0, 5, 6] rfl (w_X1_worth_151 C hfr hlo K hrr hrec hret V L x5 x6 hf)
    · refine r_aload_n C dX1_worth_47 0 rfl rfl ?_
      refine g_RX1_37_15 C K dX1_worth_48 ?_
      refine r_iload C dX1_worth_51 7 rfl ?_
      refine f_callI C K cal_RX1_94 ⟨rfl, rfl, Nat.le_trans (Nat.le_of_ble_eq_true rfl) hfr, Nat.le_trans (Nat.le_of_ble_eq_true rfl) hlo⟩ (t_X3_hasVerse _ x7) (cw_o5 E A _ _) rfl (cw_fst _ _ _ _ _ _) rfl (rest := []) rfl (Nat.le_of_ble_eq_true rfl) dX1_worth_53 ?_
      refine r_if_eq C (tgt := 151) dX1_worth_56 rfl hf (fun hf => ?_) (fun hf => ?_)
      · exact r_sub [0, 5, 6] rfl (w_X1_worth_151 C hfr hlo K hrr hrec hret V L x5 x6 hf)
      · refine r_iload C dX1_worth_59 5 rfl ?_
        refine r_iconst C dX1_worth_61 ki_2 ?_
        refine r_icmp_ge C (tgt := 151) dX1_worth_62 rfl hf (fun hf => ?_) (fun hf => ?_)
        · exact r_sub [0, 5, 6] rfl (w_X1_worth_151 C hfr hlo K hrr hrec hret V L x5 x6 hf)
        · refine r_aload_n C dX1_worth_65 0 rfl rfl ?_
          refine g_RX1_12_15 C K dX1_worth_66 ?_
          refine r_aload_n C dX1_worth_69 0 rfl rfl ?_
          refine g_RX1_37_15 C K dX1_worth_70 ?_
          refine g_RX1_97_5 C K dX1_worth_73 ?_
          refine r_iload C dX1_worth_76 7 rfl ?_
          refine s_iald C K (cw_a7 E A _ _) dX1_worth_78 hf (fun hf => ?_)
          refine bd2_e hf (fun r_1 c_2 hq hf => ?_)
          refine s_callI C K jc16 cal_RX1_54 ⟨rfl, rfl, Nat.le_trans (Nat.le_of_ble_eq_true rfl) hfr, Nat.le_trans (Nat.le_of_ble_eq_true rfl) hlo⟩ (t_X0_putOut _ jc16 (V 7 x7.toNatClampNeg) hq) rfl (rest := []) rfl (Nat.le_of_ble_eq_true rfl) dX1_worth_79 ?_
          refine b_V hf (fun V_3 hf => ?_)
          refine r_istore C dX1_worth_82 (Nat.le_of_ble_eq_true rfl) (lv2 := [(8, .int r_1), (0, .ref (A 15)), (1, .int x1), (2, .int x2), (3, .int x3), (4, .int x4), (5, .int x5), (6, .int x6), (7, .int x7)]) rfl ?_
          refine r_iload C dX1_worth_84 0 rfl ?_
          refine r_iload_n C dX1_worth_86 2 rfl rfl ?_
          refine r_icmp_ne C (tgt := 96) dX1_worth_87 rfl hf (fun hf => ?_) (fun hf => ?_)
          · refine r_iload C dX1_worth_96 0 rfl ?_
            refine r_iload_n C dX1_worth_98 3 rfl rfl ?_
            refine r_icmp_ne C (tgt := 108) dX1_worth_99 rfl hf (fun hf => ?_) (fun hf => ?_)
            · refine r_iconst C dX1_worth_108 ki_2 ?_
              refine r_aload_n C dX1_worth_109 1 rfl rfl ?_
              refine r_iload_n C dX1_worth_110 3 rfl rfl ?_
              refine r_iload_n C dX1_worth_111 2 rfl rfl ?_
              refine r_iload_n C dX1_worth_112 4 rfl rfl ?_
              refine r_iconst C dX1_worth_113 ki_1 ?_
              refine r_iadd C dX1_worth_114 ?_
              refine bd3_e hf (fun r_4 V_5 L_6 hq hf => ?_)
              refine f_callI C K cal_RX1_79 hrr (hrec x2 x1 (x3 + (1 : Int32)) hq) (cw_o15 E A _ _) rfl (cw_fst _ _ _ _ _ _) rfl (rest := [.int (2 : Int32)]) rfl (Nat.le_of_ble_eq_true rfl) dX1_worth_115 ?_
              refine r_isub C dX1_worth_118 ?_
              refine r_istore C dX1_worth_119 (Nat.le_of_ble_eq_true rfl) (lv2 := [(9, .int ((2 : Int32) - r_4)), (8, .int r_1), (0, .ref (A 15)), (1, .int x1), (2, .int x2), (3, .int x3), (4, .int x4), (5, .int x5), (6, .int x6), (7, .int x7)]) rfl ?_
              exact r_sub [2, 3, 4, 5, 6, 7, 8, 9, 0] rfl (w_X1_worth_121 C hfr hlo K hrr hrec hret ih V_5 L_6 x5 x6 x7 ((2 : Int32) - r_4) hf)
            · refine r_iconst C dX1_worth_102 ki_2 ?_
              refine r_istore C dX1_worth_103 (Nat.le_of_ble_eq_true rfl) (lv2 := [(9, .int (2 : Int32)), (8, .int r_1), (0, .ref (A 15)), (1, .int x1), (2, .int x2), (3, .int x3), (4, .int x4), (5, .int x5), (6, .int x6), (7, .int x7)]) rfl ?_
              refine r_goto C (tgt := 121) dX1_worth_105 rfl ?_
              exact r_sub [2, 3, 4, 5, 6, 7, 8, 9, 0] rfl (w_X1_worth_121 C hfr hlo K hrr hrec hret ih V_3 L x5 x6 x7 (2 : Int32) hf)
          · refine r_iconst C dX1_worth_90 ki_0 ?_
            refine r_istore C dX1_worth_91 (Nat.le_of_ble_eq_true rfl) (lv2 := [(9, .int (0 : Int32)), (8, .int r_1), (0, .ref (A 15)), (1, .int x1), (2, .int x2), (3, .int x3), (4, .int x4), (5, .int x5), (6, .int x6), (7, .int x7)]) rfl ?_
            refine r_goto C (tgt := 121) dX1_worth_93 rfl ?_
            exact r_sub [2, 3, 4, 5, 6, 7, 8, 9, 0] rfl (w_X1_worth_121 C hfr hlo K hrr hrec hret ih V_3 L x5 x6 x7 (0 : Int32) hf)
set_option maxRecDepth 100000 in
theorem w_X1_worth_0 {X : XT} {E : EvT} {Z : Nat → Prop} {Q : State → Prop} {A : Nat → Nat} {fr lo : Nat} (C : Cx X (.code yX1_worth cX1_worth 10 (some .int)) cX1_worth 10 RX1 fr lo) (hfr : 3 ≤ fr) (hlo : 72 ≤ lo) (K : Ck X E Z) {rmr : Room} (hrr : Rmf rmr 10 fr lo) {rc : (Nat → Nat → Int32) → (Nat → Int64) → Int32 → Int32 → Int32 → Option (Int32 × (Nat → Nat → Int32) × (Nat → Int64))} (hrec : ∀ {V : Nat → Nat → Int32} {L : Nat → Int64} (x1 : Int32) (x2 : Int32) (x3 : Int32) {r0 : Int32} {V0 : Nat → Nat → Int32} {L0 : Nat → Int64}, rc V L x1 x2 x3 = some (r0, V0, L0) → KI X.2.1 yX1_worth (.code yX1_worth cX1_worth 10 (some .int) :: wA) rmr E (cw E A V L) (cw E A V0 L0) [.ref (A 15), .int x1, .int x2, .int x3] r0) {r0 : Int32} {V0 : Nat → Nat → Int32} {L0 : Nat → Int64} (hret : RI X 10 cX1_worth (IF X E Z (cw E A)) Q .int r0 (V0, L0)) : ∀ (V : Nat → Nat → Int32) (L : Nat → Int64) (x1 : Int32) (x2 : Int32) (x3 : Int32), f_X1_worth_e rc V L x1 x2 x3 = some (r0, V0, L0) → Wm X 10 (IF X E Z (cw E A)) Q 0 [(0, .ref (A 15)), (1, .int x1), (2, .int x2), (3, .int x3)] [] (V, L) := by
  intro V L x1 x2 x3 hf
  rw [f_X1_worth_e] at hf
  refine r_iload_n C dX1_worth_0 3 rfl rfl ?_
  refine r_bipush C dX1_worth_1 kb_7 ?_
  refine r_icmp_ge C (tgt := 16) dX1_worth_3 rfl hf (fun hf => ?_) (fun hf => ?_)
  · exact r_sub [0] rfl (w_X1_worth_16 C hfr hlo K hrr hrec hret V L hf)
  · refine r_aload_n C dX1_worth_6 0 rfl rfl ?_
    refine g_RX1_12_15 C K dX1_worth_7 ?_
    refine s_callIr C K jc16 cal_RX1_86 ⟨rfl, rfl, Nat.le_trans (Nat.le_of_ble_eq_true rfl) hfr, Nat.le_trans (Nat.le_of_ble_eq_true rfl) hlo⟩ (t_X0_canCount _ jc16) rfl (rest := []) rfl (Nat.le_of_ble_eq_true rfl) dX1_worth_10 ?_
    refine r_if_ne C (tgt := 23) dX1_worth_13 rfl hf (fun hf => ?_) (fun hf => ?_)
    · refine r_aload_n C dX1_worth_23 0 rfl rfl ?_
      refine g_RX1_12_15 C K dX1_worth_24 ?_
      refine s_callIr C K jc16 cal_RX1_90 ⟨rfl, rfl, Nat.le_trans (Nat.le_of_ble_eq_true rfl) hfr, Nat.le_trans (Nat.le_of_ble_eq_true rfl) hlo⟩ (t_X0_pose _ jc16) rfl (rest := []) rfl (Nat.le_of_ble_eq_true rfl) dX1_worth_27 ?_
      refine r_istore C dX1_worth_30 (Nat.le_of_ble_eq_true rfl) (lv2 := [(4, .int (f_X0_pose (V 16))), (0, .ref (A 15)), (1, .int x1), (2, .int x2), (3, .int x3)]) rfl ?_
      refine r_iconst C dX1_worth_32 ki_m1 ?_
      refine r_istore C dX1_worth_33 (Nat.le_of_ble_eq_true rfl) (lv2 := [(5, .int (-1 : Int32)), (4, .int (f_X0_pose (V 16))), (0, .ref (A 15)), (1, .int x1), (2, .int x2), (3, .int x3)]) rfl ?_
      refine r_iconst C dX1_worth_35 ki_m1 ?_
      refine r_istore C dX1_worth_36 (Nat.le_of_ble_eq_true rfl) (lv2 := [(6, .int (-1 : Int32)), (5, .int (-1 : Int32)), (4, .int (f_X0_pose (V 16))), (0, .ref (A 15)), (1, .int x1), (2, .int x2), (3, .int x3)]) rfl ?_
      refine r_iconst C dX1_worth_38 ki_0 ?_
      refine r_istore C dX1_worth_39 (Nat.le_of_ble_eq_true rfl) (lv2 := [(7, .int (0 : Int32)), (6, .int (-1 : Int32)), (5, .int (-1 : Int32)), (4, .int (f_X0_pose (V 16))), (0, .ref (A 15)), (1, .int x1), (2, .int x2), (3, .int x3)]) rfl ?_
      exact r_sub [4, 5, 6, 7, 3, 2, 1, 0] rfl (w_X1_worth_41 C hfr hlo K hrr hrec hret x1 x2 x3 (f_X0_pose (V 16)) 20000 V L (-1 : Int32) (-1 : Int32) (0 : Int32) hf)
    · exact r_sub [0] rfl (w_X1_worth_16 C hfr hlo K hrr hrec hret V L hf)
def rmd_X1_worth (d : Nat) : Room := { frames := 3 + d, cells := 0, slots := 0, locals := 72 + 29 * d }
theorem td_X1_worth (l : Launch) {E : EvT} {A : Nat → Nat} : ∀ (d : Nat) {V : Nat → Nat → Int32} {L : Nat → Int64} (x1 : Int32) (x2 : Int32) (x3 : Int32) {r0 : Int32} {V0 : Nat → Nat → Int32} {L0 : Nat → Int64}, f_X1_worth d V L x1 x2 x3 = some (r0, V0, L0) → KI l yX1_worth (.code yX1_worth cX1_worth 10 (some .int) :: wA) (rmd_X1_worth d) E (cw E A V L) (cw E A V0 L0) [.ref (A 15), .int x1, .int x2, .int x3] r0 := by
  intro d
  induction d with
  | zero =>
    intro V L x1 x2 x3 r0 V0 L0 hq
    exact none_e hq
  | succ d ih =>
    intro V L x1 x2 x3 r0 V0 L0 hq
    refine ent_I (own := RX1) (ty := .int) (lv0 := [(0, .ref (A 15)), (1, .int x1), (2, .int x2), (3, .int x3)]) (by decide) rfl rfl (Nat.le_of_ble_eq_true rfl) rfl (cw_fst _ _ _ _ _ _) ?_
    intro X Z Q hl C K hret
    subst hl
    exact w_X1_worth_0 C (show 3 ≤ 3 + (d + 1) by omega) (show 72 ≤ 72 + 29 * (d + 1) by omega) K (rmr := rmd_X1_worth d) ⟨rfl, rfl, (show 3 + d + 1 ≤ 3 + (d + 1) by omega), (show 8 + (10 + 11) + (72 + 29 * d) ≤ 72 + 29 * (d + 1) by omega)⟩ (@ih) hret V L x1 x2 x3 hq
theorem t_X1_worth (l : Launch) {E : EvT} {A : Nat → Nat} {V : Nat → Nat → Int32} {L : Nat → Int64} (x1 : Int32) (x2 : Int32) (x3 : Int32) {r0 : Int32} {V0 : Nat → Nat → Int32} {L0 : Nat → Int64} (hq : f_X1_worth 9 V L x1 x2 x3 = some (r0, V0, L0)) : KI l yX1_worth (.code yX1_worth cX1_worth 10 (some .int) :: wA) rm_X1_worth E (cw E A V L) (cw E A V0 L0) [.ref (A 15), .int x1, .int x2, .int x3] r0 := td_X1_worth l 9 x1 x2 x3 hq
set_option maxRecDepth 100000 in
theorem w_X1_bestFor_0 {X : XT} {E : EvT} {Z : Nat → Prop} {Q : State → Prop} {A : Nat → Nat} (C : Cx X (.code yX1_bestFor cX1_bestFor 3 (some .int)) cX1_bestFor 3 RX1 rm_X1_bestFor.frames rm_X1_bestFor.locals) (K : Ck X E Z) {r0 : Int32} {V0 : Nat → Nat → Int32} {L0 : Nat → Int64} (hret : RI X 3 cX1_bestFor (IF X E Z (cw E A)) Q .int r0 (V0, L0)) : ∀ (V : Nat → Nat → Int32) (L : Nat → Int64) (x1 : Int32) (x2 : Int32), f_X1_bestFor V L x1 x2 = some (r0, V0, L0) → Wm X 3 (IF X E Z (cw E A)) Q 0 [(0, .ref (A 15)), (1, .int x1), (2, .int x2)] [] (V, L) := by
  intro V L x1 x2 hf
  rw [f_X1_bestFor] at hf
  refine r_aload_n C dX1_bestFor_0 0 rfl rfl ?_
  refine g_RX1_12_15 C K dX1_bestFor_1 ?_
  refine r_aload_n C dX1_bestFor_4 0 rfl rfl ?_
  refine g_RX1_37_15 C K dX1_bestFor_5 ?_
  refine g_RX1_41_5 C K dX1_bestFor_8 ?_
  refine bd1_e hf (fun c_1 hq hf => ?_)
  refine s_callV C K jc16 cal_RX1_46 ⟨rfl, rfl, Nat.le_of_ble_eq_true rfl, Nat.le_of_ble_eq_true rfl⟩ (t_X0_takeAll _ jc16 jc6 (by decide) hq) rfl (rest := []) rfl (Nat.le_of_ble_eq_true rfl) dX1_bestFor_11 ?_
  refine b_V hf (fun V_2 hf => ?_)
  refine r_aload_n C dX1_bestFor_14 0 rfl rfl ?_
  refine r_iload_n C dX1_bestFor_15 1 rfl rfl ?_
  refine r_iload_n C dX1_bestFor_16 2 rfl rfl ?_
  refine r_iconst C dX1_bestFor_17 ki_0 ?_
  refine bd3_e hf (fun r_3 V_4 L_5 hq hf => ?_)
  refine f_callI C K cal_RX1_79 ⟨rfl, rfl, Nat.le_of_ble_eq_true rfl, Nat.le_of_ble_eq_true rfl⟩ (t_X1_worth _ x1 x2 (0 : Int32) hq) (cw_o15 E A _ _) rfl (cw_fst _ _ _ _ _ _) rfl (rest := []) rfl (Nat.le_of_ble_eq_true rfl) dX1_bestFor_18 ?_
  exact ri_OW hret hf dX1_bestFor_21 rfl
theorem t_X1_bestFor (l : Launch) {E : EvT} {A : Nat → Nat} {V : Nat → Nat → Int32} {L : Nat → Int64} (x1 : Int32) (x2 : Int32) {r0 : Int32} {V0 : Nat → Nat → Int32} {L0 : Nat → Int64} (hq : f_X1_bestFor V L x1 x2 = some (r0, V0, L0)) : KI l yX1_bestFor (.code yX1_bestFor cX1_bestFor 3 (some .int) :: wA) rm_X1_bestFor E (cw E A V L) (cw E A V0 L0) [.ref (A 15), .int x1, .int x2] r0 := by
  refine ent_I (own := RX1) (ty := .int) (lv0 := [(0, .ref (A 15)), (1, .int x1), (2, .int x2)]) (by decide) rfl rfl (Nat.le_of_ble_eq_true rfl) rfl (cw_fst _ _ _ _ _ _) ?_
  intro X Z Q hl C K hret
  exact w_X1_bestFor_0 C K hret V L x1 x2 hq
set_option maxRecDepth 100000 in
theorem w_X1_verseFor_0 {X : XT} {E : EvT} {Z : Nat → Prop} {Q : State → Prop} {A : Nat → Nat} (C : Cx X (.code yX1_verseFor cX1_verseFor 3 (some .int)) cX1_verseFor 3 RX1 rm_X1_verseFor.frames rm_X1_verseFor.locals) (K : Ck X E Z) {r0 : Int32} {V0 : Nat → Nat → Int32} {L0 : Nat → Int64} (hret : RI X 3 cX1_verseFor (IF X E Z (cw E A)) Q .int r0 (V0, L0)) : ∀ (V : Nat → Nat → Int32) (L : Nat → Int64) (x1 : Int32) (x2 : Int32), f_X1_verseFor V L x1 x2 = some (r0, V0, L0) → Wm X 3 (IF X E Z (cw E A)) Q 0 [(0, .ref (A 15)), (1, .int x1), (2, .int x2)] [] (V, L) := by
  intro V L x1 x2 hf
  rw [f_X1_verseFor] at hf
  refine r_aload_n C dX1_verseFor_0 0 rfl rfl ?_
  refine g_RX1_12_15 C K dX1_verseFor_1 ?_
  refine r_aload_n C dX1_verseFor_4 0 rfl rfl ?_
  refine g_RX1_37_15 C K dX1_verseFor_5 ?_
  refine g_RX1_41_5 C K dX1_verseFor_8 ?_
  refine bd1_e hf (fun c_1 hq hf => ?_)
  refine s_callV C K jc16 cal_RX1_46 ⟨rfl, rfl, Nat.le_of_ble_eq_true rfl, Nat.le_of_ble_eq_true rfl⟩ (t_X0_takeAll _ jc16 jc6 (by decide) hq) rfl (rest := []) rfl (Nat.le_of_ble_eq_true rfl) dX1_verseFor_11 ?_
  refine b_V hf (fun V_2 hf => ?_)
  refine r_aload_n C dX1_verseFor_14 0 rfl rfl ?_
  refine r_iload_n C dX1_verseFor_15 1 rfl rfl ?_
  refine r_iload_n C dX1_verseFor_16 2 rfl rfl ?_
  refine r_iconst C dX1_verseFor_17 ki_0 ?_
  refine bd3_e hf (fun r_3 V_4 L_5 hq hf => ?_)
  refine f_callI C K cal_RX1_79 ⟨rfl, rfl, Nat.le_of_ble_eq_true rfl, Nat.le_of_ble_eq_true rfl⟩ (t_X1_worth _ x1 x2 (0 : Int32) hq) (cw_o15 E A _ _) rfl (cw_fst _ _ _ _ _ _) rfl (rest := []) rfl (Nat.le_of_ble_eq_true rfl) dX1_verseFor_18 ?_
  refine r_pop C dX1_verseFor_21 rfl ?_
  refine r_aload_n C dX1_verseFor_22 0 rfl rfl ?_
  refine g_RX1_83_15 C K dX1_verseFor_23 ?_
  exact ri_OW hret hf dX1_verseFor_26 rfl
theorem t_X1_verseFor (l : Launch) {E : EvT} {A : Nat → Nat} {V : Nat → Nat → Int32} {L : Nat → Int64} (x1 : Int32) (x2 : Int32) {r0 : Int32} {V0 : Nat → Nat → Int32} {L0 : Nat → Int64} (hq : f_X1_verseFor V L x1 x2 = some (r0, V0, L0)) : KI l yX1_verseFor (.code yX1_verseFor cX1_verseFor 3 (some .int) :: wA) rm_X1_verseFor E (cw E A V L) (cw E A V0 L0) [.ref (A 15), .int x1, .int x2] r0 := by
  refine ent_I (own := RX1) (ty := .int) (lv0 := [(0, .ref (A 15)), (1, .int x1), (2, .int x2)]) (by decide) rfl rfl (Nat.le_of_ble_eq_true rfl) rfl (cw_fst _ _ _ _ _ _) ?_
  intro X Z Q hl C K hret
  exact w_X1_verseFor_0 C K hret V L x1 x2 hq
set_option maxRecDepth 100000 in
theorem w_X1_shareOut_16 {X : XT} {E : EvT} {Z : Nat → Prop} {Q : State → Prop} {A : Nat → Nat} {fr lo : Nat} (C : Cx X (.code yX1_shareOut cX1_shareOut 5 none) cX1_shareOut 5 RX1 fr lo) (hfr : 3 ≤ fr) (hlo : 72 ≤ lo) (K : Ck X E Z) {rmr : Room} (hrr : Rmf rmr 5 fr lo) {rc : (Nat → Nat → Int32) → (Nat → Int64) → Int32 → Int32 → Option ((Nat → Nat → Int32) × (Nat → Int64))} (hrec : ∀ {V : Nat → Nat → Int32} {L : Nat → Int64} (x1 : Int32) (x2 : Int32) {V0 : Nat → Nat → Int32} {L0 : Nat → Int64}, rc V L x1 x2 = some (V0, L0) → KV X.2.1 yX1_shareOut (.code yX1_shareOut cX1_shareOut 5 none :: wA) rmr E (cw E A V L) (cw E A V0 L0) [.ref (A 15), .int x1, .int x2]) {V0 : Nat → Nat → Int32} {L0 : Nat → Int64} (hret : RV X 5 cX1_shareOut (IF X E Z (cw E A)) Q (V0, L0)) : ∀ (V : Nat → Nat → Int32) (L : Nat → Int64) (x1 : Int32), f_X1_shareOut_16 rc V L x1 = some (V0, L0) → Wm X 5 (IF X E Z (cw E A)) Q 16 [(0, .ref (A 15)), (1, .int x1)] [] (V, L) := by
  intro V L x1 hf
  rw [f_X1_shareOut_16] at hf
  refine r_aload_n C dX1_shareOut_16 0 rfl rfl ?_
  refine g_RX1_12_15 C K dX1_shareOut_17 ?_
  refine s_callIr C K jc16 cal_RX1_107 ⟨rfl, rfl, Nat.le_trans (Nat.le_of_ble_eq_true rfl) hfr, Nat.le_trans (Nat.le_of_ble_eq_true rfl) hlo⟩ (t_X0_onlyOneIn _ jc16) rfl (rest := []) rfl (Nat.le_of_ble_eq_true rfl) dX1_shareOut_20 ?_
  refine r_istore_n C dX1_shareOut_23 rfl (Nat.le_of_ble_eq_true rfl) (lv2 := [(3, .int (f_X0_onlyOneIn (V 16))), (0, .ref (A 15)), (1, .int x1)]) rfl ?_
  refine r_iload_n C dX1_shareOut_24 0 rfl rfl ?_
  refine r_if_lt C (tgt := 47) dX1_shareOut_25 rfl hf (fun hf => ?_) (fun hf => ?_)
  · exact rv_OV hret hf dX1_shareOut_47
  · refine r_iload_n C dX1_shareOut_28 0 rfl rfl ?_
    refine r_aload_n C dX1_shareOut_29 1 rfl rfl ?_
    refine g_RX1_28_15 C K dX1_shareOut_30 ?_
    refine s_alen C K (cw_a18 E A _ _) (r := 8) (by decide) dX1_shareOut_33 ?_
    refine r_icmp_ge C (tgt := 47) dX1_shareOut_34 rfl hf (fun hf => ?_) (fun hf => ?_)
    · exact rv_OV hret hf dX1_shareOut_47
    · refine r_aload_n C dX1_shareOut_37 1 rfl rfl ?_
      refine g_RX1_28_15 C K dX1_shareOut_38 ?_
      refine r_iload_n C dX1_shareOut_41 0 rfl rfl ?_
      refine r_dup2 C dX1_shareOut_42 rfl rfl ?_
      refine s_iald C K (cw_a18 E A _ _) dX1_shareOut_43 hf (fun hf => ?_)
      refine r_iload_n C dX1_shareOut_44 2 rfl rfl ?_
      refine r_iadd C dX1_shareOut_45 ?_
      refine s_iast C K (cw_a18 E A _ _) (fun z => cw_s18 E A _ _ _) dX1_shareOut_46 hf (fun V_1 hf => ?_)
      exact rv_OV hret hf dX1_shareOut_47
set_option maxRecDepth 100000 in
theorem w_X1_shareOut_59 {X : XT} {E : EvT} {Z : Nat → Prop} {Q : State → Prop} {A : Nat → Nat} {fr lo : Nat} (C : Cx X (.code yX1_shareOut cX1_shareOut 5 none) cX1_shareOut 5 RX1 fr lo) (hfr : 3 ≤ fr) (hlo : 72 ≤ lo) (K : Ck X E Z) {rmr : Room} (hrr : Rmf rmr 5 fr lo) {rc : (Nat → Nat → Int32) → (Nat → Int64) → Int32 → Int32 → Option ((Nat → Nat → Int32) × (Nat → Int64))} (hrec : ∀ {V : Nat → Nat → Int32} {L : Nat → Int64} (x1 : Int32) (x2 : Int32) {V0 : Nat → Nat → Int32} {L0 : Nat → Int64}, rc V L x1 x2 = some (V0, L0) → KV X.2.1 yX1_shareOut (.code yX1_shareOut cX1_shareOut 5 none :: wA) rmr E (cw E A V L) (cw E A V0 L0) [.ref (A 15), .int x1, .int x2]) {V0 : Nat → Nat → Int32} {L0 : Nat → Int64} (hret : RV X 5 cX1_shareOut (IF X E Z (cw E A)) Q (V0, L0)) (x1 : Int32) (x2 : Int32) (x3 : Int32) : ∀ (n : Nat) (V : Nat → Nat → Int32) (L : Nat → Int64) (x4 : Int32), f_X1_shareOut_59 rc x1 x2 x3 n V L x4 = some (V0, L0) → Wm X 5 (IF X E Z (cw E A)) Q 59 [(0, .ref (A 15)), (1, .int x1), (2, .int x2), (3, .int x3), (4, .int x4)] [] (V, L) := by
  intro n
  induction n with
  | zero =>
    intro V L x4 hf
    exact none_e hf
  | succ n ih =>
    intro V L x4 hf
    rw [f_X1_shareOut_59] at hf
    refine r_iload C dX1_shareOut_59 4 rfl ?_
    refine r_iconst C dX1_shareOut_61 ki_3 ?_
    refine r_icmp_gt C (tgt := 99) dX1_shareOut_62 rfl hf (fun hf => ?_) (fun hf => ?_)
    · exact rv_OV hret hf dX1_shareOut_99
    · refine r_aload_n C dX1_shareOut_65 0 rfl rfl ?_
      refine g_RX1_12_15 C K dX1_shareOut_66 ?_
      refine r_iload C dX1_shareOut_69 4 rfl ?_
      refine bd2_e hf (fun r_1 c_2 hq hf => ?_)
      refine s_callI C K jc16 cal_RX1_54 ⟨rfl, rfl, Nat.le_trans (Nat.le_of_ble_eq_true rfl) hfr, Nat.le_trans (Nat.le_of_ble_eq_true rfl) hlo⟩ (t_X0_putOut _ jc16 x4 hq) rfl (rest := []) rfl (Nat.le_of_ble_eq_true rfl) dX1_shareOut_71 ?_
      refine b_V hf (fun V_3 hf => ?_)
      refine r_pop C dX1_shareOut_74 rfl ?_
      refine r_aload_n C dX1_shareOut_75 0 rfl rfl ?_
      refine r_iload_n C dX1_shareOut_76 1 rfl rfl ?_
      refine r_iconst C dX1_shareOut_77 ki_3 ?_
      refine r_idiv C dX1_shareOut_78 (by decide) ?_
      refine r_iload_n C dX1_shareOut_79 2 rfl rfl ?_
      refine r_iconst C dX1_shareOut_80 ki_1 ?_
      refine r_iadd C dX1_shareOut_81 ?_
      refine bd2_e hf (fun V_4 L_5 hq hf => ?_)
      refine f_callV C K cal_RX1_104 hrr (hrec (x1 / (3 : Int32)) (x2 + (1 : Int32)) hq) (cw_o15 E A _ _) rfl (cw_fst _ _ _ _ _ _) rfl (rest := []) rfl (Nat.le_of_ble_eq_true rfl) dX1_shareOut_82 ?_
      refine r_aload_n C dX1_shareOut_85 0 rfl rfl ?_
      refine g_RX1_12_15 C K dX1_shareOut_86 ?_
      refine r_iload_n C dX1_shareOut_89 3 rfl rfl ?_
      refine s_callV C K jc16 cal_RX1_100 ⟨rfl, rfl, Nat.le_trans (Nat.le_of_ble_eq_true rfl) hfr, Nat.le_trans (Nat.le_of_ble_eq_true rfl) hlo⟩ (t_X0_takePose _ jc16 x3) rfl (rest := []) rfl (Nat.le_of_ble_eq_true rfl) dX1_shareOut_90 ?_
      refine b_V hf (fun V_7 hf => ?_)
      refine r_iinc C dX1_shareOut_93 4 rfl (kn_1 _) (Nat.le_of_ble_eq_true rfl) (lv2 := [(4, .int (x4 + 1)), (0, .ref (A 15)), (1, .int x1), (2, .int x2), (3, .int x3)]) rfl ?_
      refine r_goto C (tgt := 59) dX1_shareOut_96 rfl ?_
      exact r_sub [1, 2, 3, 4, 0] rfl (ih V_7 L_5 (x4 + 1) hf)
set_option maxRecDepth 100000 in
theorem w_X1_shareOut_0 {X : XT} {E : EvT} {Z : Nat → Prop} {Q : State → Prop} {A : Nat → Nat} {fr lo : Nat} (C : Cx X (.code yX1_shareOut cX1_shareOut 5 none) cX1_shareOut 5 RX1 fr lo) (hfr : 3 ≤ fr) (hlo : 72 ≤ lo) (K : Ck X E Z) {rmr : Room} (hrr : Rmf rmr 5 fr lo) {rc : (Nat → Nat → Int32) → (Nat → Int64) → Int32 → Int32 → Option ((Nat → Nat → Int32) × (Nat → Int64))} (hrec : ∀ {V : Nat → Nat → Int32} {L : Nat → Int64} (x1 : Int32) (x2 : Int32) {V0 : Nat → Nat → Int32} {L0 : Nat → Int64}, rc V L x1 x2 = some (V0, L0) → KV X.2.1 yX1_shareOut (.code yX1_shareOut cX1_shareOut 5 none :: wA) rmr E (cw E A V L) (cw E A V0 L0) [.ref (A 15), .int x1, .int x2]) {V0 : Nat → Nat → Int32} {L0 : Nat → Int64} (hret : RV X 5 cX1_shareOut (IF X E Z (cw E A)) Q (V0, L0)) : ∀ (V : Nat → Nat → Int32) (L : Nat → Int64) (x1 : Int32) (x2 : Int32), f_X1_shareOut_e rc V L x1 x2 = some (V0, L0) → Wm X 5 (IF X E Z (cw E A)) Q 0 [(0, .ref (A 15)), (1, .int x1), (2, .int x2)] [] (V, L) := by
  intro V L x1 x2 hf
  rw [f_X1_shareOut_e] at hf
  refine r_iload_n C dX1_shareOut_0 2 rfl rfl ?_
  refine r_bipush C dX1_shareOut_1 kb_7 ?_
  refine r_icmp_ge C (tgt := 16) dX1_shareOut_3 rfl hf (fun hf => ?_) (fun hf => ?_)
  · exact r_sub [0, 1] rfl (w_X1_shareOut_16 C hfr hlo K hrr hrec hret V L x1 hf)
  · refine r_aload_n C dX1_shareOut_6 0 rfl rfl ?_
    refine g_RX1_12_15 C K dX1_shareOut_7 ?_
    refine s_callIr C K jc16 cal_RX1_86 ⟨rfl, rfl, Nat.le_trans (Nat.le_of_ble_eq_true rfl) hfr, Nat.le_trans (Nat.le_of_ble_eq_true rfl) hlo⟩ (t_X0_canCount _ jc16) rfl (rest := []) rfl (Nat.le_of_ble_eq_true rfl) dX1_shareOut_10 ?_
    refine r_if_ne C (tgt := 48) dX1_shareOut_13 rfl hf (fun hf => ?_) (fun hf => ?_)
    · refine r_aload_n C dX1_shareOut_48 0 rfl rfl ?_
      refine g_RX1_12_15 C K dX1_shareOut_49 ?_
      refine s_callIr C K jc16 cal_RX1_90 ⟨rfl, rfl, Nat.le_trans (Nat.le_of_ble_eq_true rfl) hfr, Nat.le_trans (Nat.le_of_ble_eq_true rfl) hlo⟩ (t_X0_pose _ jc16) rfl (rest := []) rfl (Nat.le_of_ble_eq_true rfl) dX1_shareOut_52 ?_
      refine r_istore_n C dX1_shareOut_55 rfl (Nat.le_of_ble_eq_true rfl) (lv2 := [(3, .int (f_X0_pose (V 16))), (0, .ref (A 15)), (1, .int x1), (2, .int x2)]) rfl ?_
      refine r_iconst C dX1_shareOut_56 ki_1 ?_
      refine r_istore C dX1_shareOut_57 (Nat.le_of_ble_eq_true rfl) (lv2 := [(4, .int (1 : Int32)), (3, .int (f_X0_pose (V 16))), (0, .ref (A 15)), (1, .int x1), (2, .int x2)]) rfl ?_
      exact r_sub [2, 3, 4, 1, 0] rfl (w_X1_shareOut_59 C hfr hlo K hrr hrec hret x1 x2 (f_X0_pose (V 16)) 20000 V L (1 : Int32) hf)
    · exact r_sub [0, 1] rfl (w_X1_shareOut_16 C hfr hlo K hrr hrec hret V L x1 hf)
def rmd_X1_shareOut (d : Nat) : Room := { frames := 3 + d, cells := 0, slots := 0, locals := 72 + 24 * d }
theorem td_X1_shareOut (l : Launch) {E : EvT} {A : Nat → Nat} : ∀ (d : Nat) {V : Nat → Nat → Int32} {L : Nat → Int64} (x1 : Int32) (x2 : Int32) {V0 : Nat → Nat → Int32} {L0 : Nat → Int64}, f_X1_shareOut d V L x1 x2 = some (V0, L0) → KV l yX1_shareOut (.code yX1_shareOut cX1_shareOut 5 none :: wA) (rmd_X1_shareOut d) E (cw E A V L) (cw E A V0 L0) [.ref (A 15), .int x1, .int x2] := by
  intro d
  induction d with
  | zero =>
    intro V L x1 x2 V0 L0 hq
    exact none_e hq
  | succ d ih =>
    intro V L x1 x2 V0 L0 hq
    refine ent_V (own := RX1) (lv0 := [(0, .ref (A 15)), (1, .int x1), (2, .int x2)]) (by decide) rfl rfl (Nat.le_of_ble_eq_true rfl) rfl (cw_fst _ _ _ _ _ _) ?_
    intro X Z Q hl C K hret
    subst hl
    exact w_X1_shareOut_0 C (show 3 ≤ 3 + (d + 1) by omega) (show 72 ≤ 72 + 24 * (d + 1) by omega) K (rmr := rmd_X1_shareOut d) ⟨rfl, rfl, (show 3 + d + 1 ≤ 3 + (d + 1) by omega), (show 8 + (5 + 11) + (72 + 24 * d) ≤ 72 + 24 * (d + 1) by omega)⟩ (@ih) hret V L x1 x2 hq
theorem t_X1_shareOut (l : Launch) {E : EvT} {A : Nat → Nat} {V : Nat → Nat → Int32} {L : Nat → Int64} (x1 : Int32) (x2 : Int32) {V0 : Nat → Nat → Int32} {L0 : Nat → Int64} (hq : f_X1_shareOut 9 V L x1 x2 = some (V0, L0)) : KV l yX1_shareOut (.code yX1_shareOut cX1_shareOut 5 none :: wA) rm_X1_shareOut E (cw E A V L) (cw E A V0 L0) [.ref (A 15), .int x1, .int x2] := td_X1_shareOut l 9 x1 x2 hq
set_option maxRecDepth 100000 in
theorem w_X1_chanceOf_139 {X : XT} {E : EvT} {Z : Nat → Prop} {Q : State → Prop} {A : Nat → Nat} (C : Cx X (.code yX1_chanceOf cX1_chanceOf 8 (some .int)) cX1_chanceOf 8 RX1 rm_X1_chanceOf.frames rm_X1_chanceOf.locals) (K : Ck X E Z) {r0 : Int32} {V0 : Nat → Nat → Int32} {L0 : Nat → Int64} (hret : RI X 8 cX1_chanceOf (IF X E Z (cw E A)) Q .int r0 (V0, L0)) : ∀ (V : Nat → Nat → Int32) (L : Nat → Int64) (x2 : Int32) (x5 : Int32) (x6 : Int32), f_X1_chanceOf_139 V L x2 x5 x6 = some (r0, V0, L0) → Wm X 8 (IF X E Z (cw E A)) Q 139 [(2, .int x2), (5, .int x5), (6, .int x6)] [] (V, L) := by
  intro V L x2 x5 x6 hf
  rw [f_X1_chanceOf_139] at hf
  refine r_iload_n C dX1_chanceOf_139 0 rfl rfl ?_
  refine r_if_eq C (tgt := 148) dX1_chanceOf_140 rfl hf (fun hf => ?_) (fun hf => ?_)
  · refine r_iload C dX1_chanceOf_148 2 rfl ?_
    exact ri_OW hret hf dX1_chanceOf_150 rfl
  · refine r_iload C dX1_chanceOf_143 1 rfl ?_
    refine r_goto C (tgt := 150) dX1_chanceOf_145 rfl ?_
    exact ri_OW hret hf dX1_chanceOf_150 rfl
set_option maxRecDepth 100000 in
theorem w_X1_chanceOf_107 {X : XT} {E : EvT} {Z : Nat → Prop} {Q : State → Prop} {A : Nat → Nat} (C : Cx X (.code yX1_chanceOf cX1_chanceOf 8 (some .int)) cX1_chanceOf 8 RX1 rm_X1_chanceOf.frames rm_X1_chanceOf.locals) (K : Ck X E Z) {r0 : Int32} {V0 : Nat → Nat → Int32} {L0 : Nat → Int64} (hret : RI X 8 cX1_chanceOf (IF X E Z (cw E A)) Q .int r0 (V0, L0)) (V : Nat → Nat → Int32) (L : Nat → Int64) (x2 : Int32) : ∀ (n : Nat) (x5 : Int32) (x6 : Int32) (x7 : Int32), f_X1_chanceOf_107 V L x2 n x5 x6 x7 = some (r0, V0, L0) → Wm X 8 (IF X E Z (cw E A)) Q 107 [(2, .int x2), (5, .int x5), (6, .int x6), (7, .int x7)] [] (V, L) := by
  intro n
  induction n with
  | zero =>
    intro x5 x6 x7 hf
    exact none_e hf
  | succ n ih =>
    intro x5 x6 x7 hf
    rw [f_X1_chanceOf_107] at hf
    refine r_iload C dX1_chanceOf_107 3 rfl ?_
    refine r_bipush C dX1_chanceOf_109 kb_7 ?_
    refine r_icmp_ge C (tgt := 139) dX1_chanceOf_111 rfl hf (fun hf => ?_) (fun hf => ?_)
    · exact r_sub [0, 1, 2] rfl (w_X1_chanceOf_139 C K hret V L x2 x5 x6 hf)
    · refine r_iload C dX1_chanceOf_114 1 rfl ?_
      refine r_iconst C dX1_chanceOf_116 ki_3 ?_
      refine p_irem C dX1_chanceOf_117 (by decide) ?_
      refine r_if_ne C (tgt := 139) dX1_chanceOf_118 rfl hf (fun hf => ?_) (fun hf => ?_)
      · exact r_sub [0, 1, 2] rfl (w_X1_chanceOf_139 C K hret V L x2 x5 x6 hf)
      · refine r_iload C dX1_chanceOf_121 1 rfl ?_
        refine r_iconst C dX1_chanceOf_123 ki_3 ?_
        refine r_idiv C dX1_chanceOf_124 (by decide) ?_
        refine r_istore C dX1_chanceOf_125 (Nat.le_of_ble_eq_true rfl) (lv2 := [(5, .int (x5 / (3 : Int32))), (2, .int x2), (6, .int x6), (7, .int x7)]) rfl ?_
        refine r_iload C dX1_chanceOf_127 2 rfl ?_
        refine r_iconst C dX1_chanceOf_129 ki_3 ?_
        refine r_idiv C dX1_chanceOf_130 (by decide) ?_
        refine r_istore C dX1_chanceOf_131 (Nat.le_of_ble_eq_true rfl) (lv2 := [(6, .int (x6 / (3 : Int32))), (5, .int (x5 / (3 : Int32))), (2, .int x2), (7, .int x7)]) rfl ?_
        refine r_iinc C dX1_chanceOf_133 3 rfl (kn_1 _) (Nat.le_of_ble_eq_true rfl) (lv2 := [(7, .int (x7 + 1)), (6, .int (x6 / (3 : Int32))), (5, .int (x5 / (3 : Int32))), (2, .int x2)]) rfl ?_
        refine r_goto C (tgt := 107) dX1_chanceOf_136 rfl ?_
        exact r_sub [3, 2, 1, 0] rfl (ih (x5 / (3 : Int32)) (x6 / (3 : Int32)) (x7 + 1) hf)
set_option maxRecDepth 100000 in
theorem w_X1_chanceOf_96 {X : XT} {E : EvT} {Z : Nat → Prop} {Q : State → Prop} {A : Nat → Nat} (C : Cx X (.code yX1_chanceOf cX1_chanceOf 8 (some .int)) cX1_chanceOf 8 RX1 rm_X1_chanceOf.frames rm_X1_chanceOf.locals) (K : Ck X E Z) {r0 : Int32} {V0 : Nat → Nat → Int32} {L0 : Nat → Int64} (hret : RI X 8 cX1_chanceOf (IF X E Z (cw E A)) Q .int r0 (V0, L0)) : ∀ (V : Nat → Nat → Int32) (L : Nat → Int64) (x2 : Int32), f_X1_chanceOf_96 V L x2 = some (r0, V0, L0) → Wm X 8 (IF X E Z (cw E A)) Q 96 [(2, .int x2)] [] (V, L) := by
  intro V L x2 hf
  rw [f_X1_chanceOf_96] at hf
  refine r_iconst C dX1_chanceOf_96 ki_0 ?_
  refine r_istore C dX1_chanceOf_97 (Nat.le_of_ble_eq_true rfl) (lv2 := [(5, .int (0 : Int32)), (2, .int x2)]) rfl ?_
  refine r_sipush C dX1_chanceOf_99 ks_2187 ?_
  refine r_istore C dX1_chanceOf_102 (Nat.le_of_ble_eq_true rfl) (lv2 := [(6, .int (2187 : Int32)), (5, .int (0 : Int32)), (2, .int x2)]) rfl ?_
  refine r_iconst C dX1_chanceOf_104 ki_0 ?_
  refine r_istore C dX1_chanceOf_105 (Nat.le_of_ble_eq_true rfl) (lv2 := [(7, .int (0 : Int32)), (6, .int (2187 : Int32)), (5, .int (0 : Int32)), (2, .int x2)]) rfl ?_
  exact r_sub [3, 2, 1, 0] rfl (w_X1_chanceOf_107 C K hret V L x2 20000 (0 : Int32) (2187 : Int32) (0 : Int32) hf)
set_option maxRecDepth 100000 in
theorem w_X1_chanceOf_74 {X : XT} {E : EvT} {Z : Nat → Prop} {Q : State → Prop} {A : Nat → Nat} (C : Cx X (.code yX1_chanceOf cX1_chanceOf 8 (some .int)) cX1_chanceOf 8 RX1 rm_X1_chanceOf.frames rm_X1_chanceOf.locals) (K : Ck X E Z) {r0 : Int32} {V0 : Nat → Nat → Int32} {L0 : Nat → Int64} (hret : RI X 8 cX1_chanceOf (IF X E Z (cw E A)) Q .int r0 (V0, L0)) : ∀ (V : Nat → Nat → Int32) (L : Nat → Int64) (x1 : Int32) (x2 : Int32), f_X1_chanceOf_74 V L x1 x2 = some (r0, V0, L0) → Wm X 8 (IF X E Z (cw E A)) Q 74 [(0, .ref (A 15)), (1, .int x1), (2, .int x2)] [] (V, L) := by
  intro V L x1 x2 hf
  rw [f_X1_chanceOf_74] at hf
  refine r_iload_n C dX1_chanceOf_74 1 rfl rfl ?_
  refine r_if_lt C (tgt := 96) dX1_chanceOf_75 rfl hf (fun hf => ?_) (fun hf => ?_)
  · exact r_sub [2] rfl (w_X1_chanceOf_96 C K hret V L x2 hf)
  · refine r_iload_n C dX1_chanceOf_78 1 rfl rfl ?_
    refine r_aload_n C dX1_chanceOf_79 0 rfl rfl ?_
    refine g_RX1_28_15 C K dX1_chanceOf_80 ?_
    refine s_alen C K (cw_a18 E A _ _) (r := 8) (by decide) dX1_chanceOf_83 ?_
    refine r_icmp_ge C (tgt := 96) dX1_chanceOf_84 rfl hf (fun hf => ?_) (fun hf => ?_)
    · exact r_sub [2] rfl (w_X1_chanceOf_96 C K hret V L x2 hf)
    · refine r_aload_n C dX1_chanceOf_87 0 rfl rfl ?_
      refine g_RX1_28_15 C K dX1_chanceOf_88 ?_
      refine r_iload_n C dX1_chanceOf_91 1 rfl rfl ?_
      refine s_iald C K (cw_a18 E A _ _) dX1_chanceOf_92 hf (fun hf => ?_)
      refine r_goto C (tgt := 97) dX1_chanceOf_93 rfl ?_
      refine r_istore C dX1_chanceOf_97 (Nat.le_of_ble_eq_true rfl) (lv2 := [(5, .int (V 18 x1.toNatClampNeg)), (0, .ref (A 15)), (1, .int x1), (2, .int x2)]) rfl ?_
      refine r_sipush C dX1_chanceOf_99 ks_2187 ?_
      refine r_istore C dX1_chanceOf_102 (Nat.le_of_ble_eq_true rfl) (lv2 := [(6, .int (2187 : Int32)), (5, .int (V 18 x1.toNatClampNeg)), (0, .ref (A 15)), (1, .int x1), (2, .int x2)]) rfl ?_
      refine r_iconst C dX1_chanceOf_104 ki_0 ?_
      refine r_istore C dX1_chanceOf_105 (Nat.le_of_ble_eq_true rfl) (lv2 := [(7, .int (0 : Int32)), (6, .int (2187 : Int32)), (5, .int (V 18 x1.toNatClampNeg)), (0, .ref (A 15)), (1, .int x1), (2, .int x2)]) rfl ?_
      exact r_sub [5, 2, 1, 0] rfl (w_X1_chanceOf_107 C K hret V L x2 20000 (V 18 x1.toNatClampNeg) (2187 : Int32) (0 : Int32) hf)
set_option maxRecDepth 100000 in
theorem w_X1_chanceOf_23 {X : XT} {E : EvT} {Z : Nat → Prop} {Q : State → Prop} {A : Nat → Nat} (C : Cx X (.code yX1_chanceOf cX1_chanceOf 8 (some .int)) cX1_chanceOf 8 RX1 rm_X1_chanceOf.frames rm_X1_chanceOf.locals) (K : Ck X E Z) {r0 : Int32} {V0 : Nat → Nat → Int32} {L0 : Nat → Int64} (hret : RI X 8 cX1_chanceOf (IF X E Z (cw E A)) Q .int r0 (V0, L0)) (x1 : Int32) (x2 : Int32) (y3 : Int64) : ∀ (n : Nat) (V : Nat → Nat → Int32) (L : Nat → Int64) (x5 : Int32), f_X1_chanceOf_23 x1 x2 y3 n V L x5 = some (r0, V0, L0) → Wm X 8 (IF X E Z (cw E A)) Q 23 [(0, .ref (A 15)), (1, .int x1), (2, .int x2), (3, .long y3), (5, .int x5)] [] (V, L) := by
  intro n
  induction n with
  | zero =>
    intro V L x5 hf
    exact none_e hf
  | succ n ih =>
    intro V L x5 hf
    rw [f_X1_chanceOf_23] at hf
    refine r_iload C dX1_chanceOf_23 4 rfl ?_
    refine r_aload_n C dX1_chanceOf_25 0 rfl rfl ?_
    refine g_RX1_28_15 C K dX1_chanceOf_26 ?_
    refine s_alen C K (cw_a18 E A _ _) (r := 8) (by decide) dX1_chanceOf_29 ?_
    refine r_icmp_ge C (tgt := 47) dX1_chanceOf_30 rfl hf (fun hf => ?_) (fun hf => ?_)
    · refine r_aload_n C dX1_chanceOf_47 0 rfl rfl ?_
      refine g_RX1_12_15 C K dX1_chanceOf_48 ?_
      refine r_aload_n C dX1_chanceOf_51 0 rfl rfl ?_
      refine g_RX1_37_15 C K dX1_chanceOf_52 ?_
      refine g_RX1_41_5 C K dX1_chanceOf_55 ?_
      refine bd1_e hf (fun c_1 hq hf => ?_)
      refine s_callV C K jc16 cal_RX1_46 ⟨rfl, rfl, Nat.le_of_ble_eq_true rfl, Nat.le_of_ble_eq_true rfl⟩ (t_X0_takeAll _ jc16 jc6 (by decide) hq) rfl (rest := []) rfl (Nat.le_of_ble_eq_true rfl) dX1_chanceOf_58 ?_
      refine b_V hf (fun V_2 hf => ?_)
      refine r_aload_n C dX1_chanceOf_61 0 rfl rfl ?_
      refine r_sipush C dX1_chanceOf_62 ks_2187 ?_
      refine r_iconst C dX1_chanceOf_65 ki_0 ?_
      refine bd2_e hf (fun V_3 L_4 hq hf => ?_)
      refine f_callV C K cal_RX1_104 ⟨rfl, rfl, Nat.le_of_ble_eq_true rfl, Nat.le_of_ble_eq_true rfl⟩ (t_X1_shareOut _ (2187 : Int32) (0 : Int32) hq) (cw_o15 E A _ _) rfl (cw_fst _ _ _ _ _ _) rfl (rest := []) rfl (Nat.le_of_ble_eq_true rfl) dX1_chanceOf_66 ?_
      refine r_aload_n C dX1_chanceOf_69 0 rfl rfl ?_
      refine r_lload_n C dX1_chanceOf_70 3 rfl rfl ?_
      refine p_RX1_31_15 C K dX1_chanceOf_71 hf (fun L_5 hf => ?_)
      exact r_sub [0, 1, 2] rfl (w_X1_chanceOf_74 C K hret V_3 L_5 x1 x2 hf)
    · refine r_aload_n C dX1_chanceOf_33 0 rfl rfl ?_
      refine g_RX1_28_15 C K dX1_chanceOf_34 ?_
      refine r_iload C dX1_chanceOf_37 4 rfl ?_
      refine r_iconst C dX1_chanceOf_39 ki_0 ?_
      refine s_iast C K (cw_a18 E A _ _) (fun z => cw_s18 E A _ _ _) dX1_chanceOf_40 hf (fun V_6 hf => ?_)
      refine r_iinc C dX1_chanceOf_41 4 rfl (kn_1 _) (Nat.le_of_ble_eq_true rfl) (lv2 := [(5, .int (x5 + 1)), (0, .ref (A 15)), (1, .int x1), (2, .int x2), (3, .long y3)]) rfl ?_
      refine r_goto C (tgt := 23) dX1_chanceOf_44 rfl ?_
      exact r_sub [1, 2, 3, 4, 0] rfl (ih V_6 L (x5 + 1) hf)
set_option maxRecDepth 100000 in
theorem w_X1_chanceOf_0 {X : XT} {E : EvT} {Z : Nat → Prop} {Q : State → Prop} {A : Nat → Nat} (C : Cx X (.code yX1_chanceOf cX1_chanceOf 8 (some .int)) cX1_chanceOf 8 RX1 rm_X1_chanceOf.frames rm_X1_chanceOf.locals) (K : Ck X E Z) {r0 : Int32} {V0 : Nat → Nat → Int32} {L0 : Nat → Int64} (hret : RI X 8 cX1_chanceOf (IF X E Z (cw E A)) Q .int r0 (V0, L0)) : ∀ (V : Nat → Nat → Int32) (L : Nat → Int64) (x1 : Int32) (x2 : Int32), f_X1_chanceOf V L x1 x2 = some (r0, V0, L0) → Wm X 8 (IF X E Z (cw E A)) Q 0 [(0, .ref (A 15)), (1, .int x1), (2, .int x2)] [] (V, L) := by
  intro V L x1 x2 hf
  rw [f_X1_chanceOf] at hf
  refine r_aload_n C dX1_chanceOf_0 0 rfl rfl ?_
  refine g_RX1_37_15 C K dX1_chanceOf_1 ?_
  refine g_RX1_41_5 C K dX1_chanceOf_4 ?_
  refine s_callLr C K jc6 cal_RX1_61 ⟨rfl, rfl, Nat.le_of_ble_eq_true rfl, Nat.le_of_ble_eq_true rfl⟩ (t_X0_key _ jc6) rfl (rest := []) rfl (Nat.le_of_ble_eq_true rfl) dX1_chanceOf_7 ?_
  refine r_lstore_n C dX1_chanceOf_10 rfl (Nat.le_of_ble_eq_true rfl) (lv2 := [(3, .long (f_X0_key (V 6))), (0, .ref (A 15)), (1, .int x1), (2, .int x2)]) rfl ?_
  refine r_lload_n C dX1_chanceOf_11 0 rfl rfl ?_
  refine r_aload_n C dX1_chanceOf_12 1 rfl rfl ?_
  refine g_RX1_31_15 C K dX1_chanceOf_13 ?_
  refine r_lcmp C dX1_chanceOf_16 ?_
  refine r_if_eq C (tgt := 74) dX1_chanceOf_17 rfl hf (fun hf => ?_) (fun hf => ?_)
  · exact r_sub [1, 2, 3] rfl (w_X1_chanceOf_74 C K hret V L x1 x2 hf)
  · refine r_iconst C dX1_chanceOf_20 ki_0 ?_
    refine r_istore C dX1_chanceOf_21 (Nat.le_of_ble_eq_true rfl) (lv2 := [(5, .int (0 : Int32)), (3, .long (f_X0_key (V 6))), (0, .ref (A 15)), (1, .int x1), (2, .int x2)]) rfl ?_
    exact r_sub [2, 3, 4, 1, 0] rfl (w_X1_chanceOf_23 C K hret x1 x2 (f_X0_key (V 6)) 20000 V L (0 : Int32) hf)
theorem t_X1_chanceOf (l : Launch) {E : EvT} {A : Nat → Nat} {V : Nat → Nat → Int32} {L : Nat → Int64} (x1 : Int32) (x2 : Int32) {r0 : Int32} {V0 : Nat → Nat → Int32} {L0 : Nat → Int64} (hq : f_X1_chanceOf V L x1 x2 = some (r0, V0, L0)) : KI l yX1_chanceOf (.code yX1_chanceOf cX1_chanceOf 8 (some .int) :: wA) rm_X1_chanceOf E (cw E A V L) (cw E A V0 L0) [.ref (A 15), .int x1, .int x2] r0 := by
  refine ent_I (own := RX1) (ty := .int) (lv0 := [(0, .ref (A 15)), (1, .int x1), (2, .int x2)]) (by decide) rfl rfl (Nat.le_of_ble_eq_true rfl) rfl (cw_fst _ _ _ _ _ _) ?_
  intro X Z Q hl C K hret
  exact w_X1_chanceOf_0 C K hret V L x1 x2 hq
set_option maxRecDepth 100000 in
theorem w_X1_lengthBits_24 {X : XT} {E : EvT} {Z : Nat → Prop} {Q : State → Prop} {A : Nat → Nat} (C : Cx X (.code yX1_lengthBits cX1_lengthBits 4 (some .int)) cX1_lengthBits 4 RX1 rm_X1_lengthBits.frames rm_X1_lengthBits.locals) (K : Ck X E Z) {r0 : Int32} {V0 : Nat → Nat → Int32} {L0 : Nat → Int64} (hret : RI X 4 cX1_lengthBits (IF X E Z (cw E A)) Q .int r0 (V0, L0)) {k5 : (Nat → Nat → Int32) → (Nat → Int64) → Int32 → Int32 → Option (Int32 × (Nat → Nat → Int32) × (Nat → Int64))} (hk5 : ∀ (V : Nat → Nat → Int32) (L : Nat → Int64) (x1 : Int32) (x2 : Int32), k5 V L x1 x2 = some (r0, V0, L0) → Wm X 4 (IF X E Z (cw E A)) Q 5 [(0, .ref (A 15)), (1, .int x1), (2, .int x2)] [] (V, L)) (x2 : Int32) : ∀ (n : Nat) (V : Nat → Nat → Int32) (L : Nat → Int64) (x1 : Int32) (x3 : Int32), f_X1_lengthBits_24 k5 x2 n V L x1 x3 = some (r0, V0, L0) → Wm X 4 (IF X E Z (cw E A)) Q 24 [(0, .ref (A 15)), (1, .int x1), (2, .int x2), (3, .int x3)] [] (V, L) := by
  intro n
  induction n with
  | zero =>
    intro V L x1 x3 hf
    exact none_e hf
  | succ n ih =>
    intro V L x1 x3 hf
    rw [f_X1_lengthBits_24] at hf
    refine r_iload_n C dX1_lengthBits_24 3 rfl rfl ?_
    refine r_bipush C dX1_lengthBits_25 kb_24 ?_
    refine r_icmp_gt C (tgt := 72) dX1_lengthBits_27 rfl hf (fun hf => ?_) (fun hf => ?_)
    · refine r_iinc C dX1_lengthBits_72 2 rfl (kn_1 _) (Nat.le_of_ble_eq_true rfl) (lv2 := [(2, .int (x2 + 1)), (0, .ref (A 15)), (1, .int x1), (3, .int x3)]) rfl ?_
      refine r_goto C (tgt := 5) dX1_lengthBits_75 rfl ?_
      exact r_sub [1, 2, 0] rfl (hk5 V L x1 (x2 + 1) hf)
    · refine r_aload_n C dX1_lengthBits_30 0 rfl rfl ?_
      refine r_aload_n C dX1_lengthBits_31 0 rfl rfl ?_
      refine g_RX1_37_15 C K dX1_lengthBits_32 ?_
      refine g_RX1_114_5 C K dX1_lengthBits_35 ?_
      refine r_iload_n C dX1_lengthBits_38 2 rfl rfl ?_
      refine s_iald C K (cw_a8 E A _ _) dX1_lengthBits_39 hf (fun hf => ?_)
      refine r_iload_n C dX1_lengthBits_40 3 rfl rfl ?_
      refine bd3_e hf (fun r_1 V_2 L_3 hq hf => ?_)
      refine f_callI C K cal_RX1_117 ⟨rfl, rfl, Nat.le_of_ble_eq_true rfl, Nat.le_of_ble_eq_true rfl⟩ (t_X1_outBy _ (V 8 x2.toNatClampNeg) x3 hq) (cw_o15 E A _ _) rfl (cw_fst _ _ _ _ _ _) rfl (rest := []) rfl (Nat.le_of_ble_eq_true rfl) dX1_lengthBits_41 ?_
      refine r_aload_n C dX1_lengthBits_44 0 rfl rfl ?_
      refine g_RX1_37_15 C K dX1_lengthBits_45 ?_
      refine g_RX1_121_5 C K dX1_lengthBits_48 ?_
      refine r_iload_n C dX1_lengthBits_51 2 rfl rfl ?_
      refine s_iald C K (cw_a9 E A _ _) dX1_lengthBits_52 hf (fun hf => ?_)
      refine r_icmp_eq C (tgt := 66) dX1_lengthBits_53 rfl hf (fun hf => ?_) (fun hf => ?_)
      · refine r_iinc C dX1_lengthBits_66 3 rfl (kn_1 _) (Nat.le_of_ble_eq_true rfl) (lv2 := [(3, .int (x3 + 1)), (0, .ref (A 15)), (1, .int x1), (2, .int x2)]) rfl ?_
        refine r_goto C (tgt := 24) dX1_lengthBits_69 rfl ?_
        exact r_sub [1, 2, 3, 0] rfl (ih V_2 L_3 x1 (x3 + 1) hf)
      · refine r_iload_n C dX1_lengthBits_56 1 rfl rfl ?_
        refine r_iconst C dX1_lengthBits_57 ki_1 ?_
        refine r_iload_n C dX1_lengthBits_58 3 rfl rfl ?_
        refine r_iconst C dX1_lengthBits_59 ki_1 ?_
        refine r_isub C dX1_lengthBits_60 ?_
        refine p_ishl C dX1_lengthBits_61 ?_
        refine r_iconst C dX1_lengthBits_62 ki_m1 ?_
        refine r_ixor C dX1_lengthBits_63 ?_
        refine r_iand C dX1_lengthBits_64 ?_
        refine b_int hf (fun t_4 hf => ?_)
        refine r_istore_n C dX1_lengthBits_65 rfl (Nat.le_of_ble_eq_true rfl) (lv2 := [(1, .int t_4), (0, .ref (A 15)), (2, .int x2), (3, .int x3)]) rfl ?_
        refine r_iinc C dX1_lengthBits_66 3 rfl (kn_1 _) (Nat.le_of_ble_eq_true rfl) (lv2 := [(3, .int (x3 + 1)), (1, .int t_4), (0, .ref (A 15)), (2, .int x2)]) rfl ?_
        refine r_goto C (tgt := 24) dX1_lengthBits_69 rfl ?_
        exact r_sub [2, 1, 3, 0] rfl (ih V_2 L_3 t_4 (x3 + 1) hf)
set_option maxRecDepth 100000 in
theorem w_X1_lengthBits_5 {X : XT} {E : EvT} {Z : Nat → Prop} {Q : State → Prop} {A : Nat → Nat} (C : Cx X (.code yX1_lengthBits cX1_lengthBits 4 (some .int)) cX1_lengthBits 4 RX1 rm_X1_lengthBits.frames rm_X1_lengthBits.locals) (K : Ck X E Z) {r0 : Int32} {V0 : Nat → Nat → Int32} {L0 : Nat → Int64} (hret : RI X 4 cX1_lengthBits (IF X E Z (cw E A)) Q .int r0 (V0, L0)) : ∀ (n : Nat) (V : Nat → Nat → Int32) (L : Nat → Int64) (x1 : Int32) (x2 : Int32), f_X1_lengthBits_5 n V L x1 x2 = some (r0, V0, L0) → Wm X 4 (IF X E Z (cw E A)) Q 5 [(0, .ref (A 15)), (1, .int x1), (2, .int x2)] [] (V, L) := by
  intro n
  induction n with
  | zero =>
    intro V L x1 x2 hf
    exact none_e hf
  | succ n ih =>
    intro V L x1 x2 hf
    rw [f_X1_lengthBits_5] at hf
    refine r_iload_n C dX1_lengthBits_5 2 rfl rfl ?_
    refine r_aload_n C dX1_lengthBits_6 0 rfl rfl ?_
    refine g_RX1_37_15 C K dX1_lengthBits_7 ?_
    refine g_RX1_111_5 C K dX1_lengthBits_10 ?_
    refine r_icmp_ge C (tgt := 78) dX1_lengthBits_13 rfl hf (fun hf => ?_) (fun hf => ?_)
    · refine r_iload_n C dX1_lengthBits_78 1 rfl rfl ?_
      exact ri_OW hret hf dX1_lengthBits_79 rfl
    · refine r_iload_n C dX1_lengthBits_16 2 rfl rfl ?_
      refine r_bipush C dX1_lengthBits_17 kb_6 ?_
      refine r_icmp_ge C (tgt := 78) dX1_lengthBits_19 rfl hf (fun hf => ?_) (fun hf => ?_)
      · refine r_iload_n C dX1_lengthBits_78 1 rfl rfl ?_
        exact ri_OW hret hf dX1_lengthBits_79 rfl
      · refine r_iconst C dX1_lengthBits_22 ki_1 ?_
        refine r_istore_n C dX1_lengthBits_23 rfl (Nat.le_of_ble_eq_true rfl) (lv2 := [(3, .int (1 : Int32)), (0, .ref (A 15)), (1, .int x1), (2, .int x2)]) rfl ?_
        exact r_sub [1, 2, 3, 0] rfl (w_X1_lengthBits_24 C K hret ih x2 20000 V L x1 (1 : Int32) hf)
set_option maxRecDepth 100000 in
theorem w_X1_lengthBits_0 {X : XT} {E : EvT} {Z : Nat → Prop} {Q : State → Prop} {A : Nat → Nat} (C : Cx X (.code yX1_lengthBits cX1_lengthBits 4 (some .int)) cX1_lengthBits 4 RX1 rm_X1_lengthBits.frames rm_X1_lengthBits.locals) (K : Ck X E Z) {r0 : Int32} {V0 : Nat → Nat → Int32} {L0 : Nat → Int64} (hret : RI X 4 cX1_lengthBits (IF X E Z (cw E A)) Q .int r0 (V0, L0)) : ∀ (V : Nat → Nat → Int32) (L : Nat → Int64), f_X1_lengthBits V L = some (r0, V0, L0) → Wm X 4 (IF X E Z (cw E A)) Q 0 [(0, .ref (A 15))] [] (V, L) := by
  intro V L hf
  rw [f_X1_lengthBits] at hf
  refine r_ldc C q_k_RX1_110 dX1_lengthBits_0 ?_
  refine r_istore_n C dX1_lengthBits_2 rfl (Nat.le_of_ble_eq_true rfl) (lv2 := [(1, .int (16777215 : Int32)), (0, .ref (A 15))]) rfl ?_
  refine r_iconst C dX1_lengthBits_3 ki_0 ?_
  refine r_istore_n C dX1_lengthBits_4 rfl (Nat.le_of_ble_eq_true rfl) (lv2 := [(2, .int (0 : Int32)), (1, .int (16777215 : Int32)), (0, .ref (A 15))]) rfl ?_
  exact r_sub [2, 1, 0] rfl (w_X1_lengthBits_5 C K hret 20000 V L (16777215 : Int32) (0 : Int32) hf)
theorem t_X1_lengthBits (l : Launch) {E : EvT} {A : Nat → Nat} {V : Nat → Nat → Int32} {L : Nat → Int64} {r0 : Int32} {V0 : Nat → Nat → Int32} {L0 : Nat → Int64} (hq : f_X1_lengthBits V L = some (r0, V0, L0)) : KI l yX1_lengthBits (.code yX1_lengthBits cX1_lengthBits 4 (some .int) :: wA) rm_X1_lengthBits E (cw E A V L) (cw E A V0 L0) [.ref (A 15)] r0 := by
  refine ent_I (own := RX1) (ty := .int) (lv0 := [(0, .ref (A 15))]) (by decide) rfl rfl (Nat.le_of_ble_eq_true rfl) rfl (cw_fst _ _ _ _ _ _) ?_
  intro X Z Q hl C K hret
  exact w_X1_lengthBits_0 C K hret V L  hq
set_option maxRecDepth 100000 in
theorem w_X1_mostLeft_29 {X : XT} {E : EvT} {Z : Nat → Prop} {Q : State → Prop} {A : Nat → Nat} (C : Cx X (.code yX1_mostLeft cX1_mostLeft 6 (some .int)) cX1_mostLeft 6 RX1 rm_X1_mostLeft.frames rm_X1_mostLeft.locals) (K : Ck X E Z) {r0 : Int32} {V0 : Nat → Nat → Int32} {L0 : Nat → Int64} (hret : RI X 6 cX1_mostLeft (IF X E Z (cw E A)) Q .int r0 (V0, L0)) (x1 : Int32) (x2 : Int32) : ∀ (n : Nat) (V : Nat → Nat → Int32) (L : Nat → Int64) (x3 : Int32) (x4 : Int32), f_X1_mostLeft_29 x1 x2 n V L x3 x4 = some (r0, V0, L0) → Wm X 6 (IF X E Z (cw E A)) Q 29 [(0, .ref (A 15)), (1, .int x1), (2, .int x2), (3, .int x3), (4, .int x4)] [] (V, L) := by
  intro n
  induction n with
  | zero =>
    intro V L x3 x4 hf
    exact none_e hf
  | succ n ih =>
    intro V L x3 x4 hf
    rw [f_X1_mostLeft_29] at hf
    refine r_iload C dX1_mostLeft_29 4 rfl ?_
    refine r_bipush C dX1_mostLeft_31 kb_24 ?_
    refine r_icmp_gt C (tgt := 100) dX1_mostLeft_33 rfl hf (fun hf => ?_) (fun hf => ?_)
    · refine r_iload_n C dX1_mostLeft_100 3 rfl rfl ?_
      exact ri_OW hret hf dX1_mostLeft_101 rfl
    · refine r_iload_n C dX1_mostLeft_36 2 rfl rfl ?_
      refine r_iload C dX1_mostLeft_37 4 rfl ?_
      refine r_iconst C dX1_mostLeft_39 ki_1 ?_
      refine r_isub C dX1_mostLeft_40 ?_
      refine p_ishr C dX1_mostLeft_41 ?_
      refine r_iconst C dX1_mostLeft_42 ki_1 ?_
      refine r_iand C dX1_mostLeft_43 ?_
      refine r_if_eq C (tgt := 94) dX1_mostLeft_44 rfl hf (fun hf => ?_) (fun hf => ?_)
      · refine r_iinc C dX1_mostLeft_94 4 rfl (kn_1 _) (Nat.le_of_ble_eq_true rfl) (lv2 := [(4, .int (x4 + 1)), (0, .ref (A 15)), (1, .int x1), (2, .int x2), (3, .int x3)]) rfl ?_
        refine r_goto C (tgt := 29) dX1_mostLeft_97 rfl ?_
        exact r_sub [1, 2, 3, 4, 0] rfl (ih V L x3 (x4 + 1) hf)
      · refine r_aload_n C dX1_mostLeft_47 0 rfl rfl ?_
        refine r_iload_n C dX1_mostLeft_48 1 rfl rfl ?_
        refine r_iload C dX1_mostLeft_49 4 rfl ?_
        refine bd3_e hf (fun r_1 V_2 L_3 hq hf => ?_)
        refine f_callI C K cal_RX1_117 ⟨rfl, rfl, Nat.le_of_ble_eq_true rfl, Nat.le_of_ble_eq_true rfl⟩ (t_X1_outBy _ x1 x4 hq) (cw_o15 E A _ _) rfl (cw_fst _ _ _ _ _ _) rfl (rest := []) rfl (Nat.le_of_ble_eq_true rfl) dX1_mostLeft_51 ?_
        refine r_istore C dX1_mostLeft_54 (Nat.le_of_ble_eq_true rfl) (lv2 := [(5, .int r_1), (0, .ref (A 15)), (1, .int x1), (2, .int x2), (3, .int x3), (4, .int x4)]) rfl ?_
        refine r_iload C dX1_mostLeft_56 0 rfl ?_
        refine r_if_lt C (tgt := 94) dX1_mostLeft_58 rfl hf (fun hf => ?_) (fun hf => ?_)
        · refine r_iinc C dX1_mostLeft_94 5 rfl (kn_1 _) (Nat.le_of_ble_eq_true rfl) (lv2 := [(4, .int (x4 + 1)), (5, .int r_1), (0, .ref (A 15)), (1, .int x1), (2, .int x2), (3, .int x3)]) rfl ?_
          refine r_goto C (tgt := 29) dX1_mostLeft_97 rfl ?_
          exact r_sub [2, 3, 4, 5, 0] rfl (ih V_2 L_3 x3 (x4 + 1) hf)
        · refine r_iload C dX1_mostLeft_61 0 rfl ?_
          refine r_aload_n C dX1_mostLeft_63 1 rfl rfl ?_
          refine g_RX1_34_15 C K dX1_mostLeft_64 ?_
          refine s_alen C K (cw_a19 E A _ _) (r := 8) (by decide) dX1_mostLeft_67 ?_
          refine r_icmp_ge C (tgt := 94) dX1_mostLeft_68 rfl hf (fun hf => ?_) (fun hf => ?_)
          · refine r_iinc C dX1_mostLeft_94 5 rfl (kn_1 _) (Nat.le_of_ble_eq_true rfl) (lv2 := [(4, .int (x4 + 1)), (5, .int r_1), (0, .ref (A 15)), (1, .int x1), (2, .int x2), (3, .int x3)]) rfl ?_
            refine r_goto C (tgt := 29) dX1_mostLeft_97 rfl ?_
            exact r_sub [2, 3, 4, 5, 0] rfl (ih V_2 L_3 x3 (x4 + 1) hf)
          · refine r_aload_n C dX1_mostLeft_71 1 rfl rfl ?_
            refine g_RX1_34_15 C K dX1_mostLeft_72 ?_
            refine r_iload C dX1_mostLeft_75 0 rfl ?_
            refine r_dup2 C dX1_mostLeft_77 rfl rfl ?_
            refine s_iald C K (cw_a19 E A _ _) dX1_mostLeft_78 hf (fun hf => ?_)
            refine r_iconst C dX1_mostLeft_79 ki_1 ?_
            refine r_iadd C dX1_mostLeft_80 ?_
            refine s_iast C K (cw_a19 E A _ _) (fun z => cw_s19 E A _ _ _) dX1_mostLeft_81 hf (fun V_4 hf => ?_)
            refine r_iload_n C dX1_mostLeft_82 4 rfl rfl ?_
            refine r_aload_n C dX1_mostLeft_83 1 rfl rfl ?_
            refine g_RX1_34_15 C K dX1_mostLeft_84 ?_
            refine r_iload C dX1_mostLeft_87 0 rfl ?_
            refine s_iald C K (cw_a19 E A _ _) dX1_mostLeft_89 hf (fun hf => ?_)
            refine r_mmax C q_m_RX1_127 q_st_yJ9_max_7cf53 q_in_RJ9 q_c_mmax (Nat.le_of_ble_eq_true rfl) (Nat.le_of_ble_eq_true rfl) dX1_mostLeft_90 ?_
            refine b_int hf (fun t_5 hf => ?_)
            refine r_istore_n C dX1_mostLeft_93 rfl (Nat.le_of_ble_eq_true rfl) (lv2 := [(3, .int t_5), (5, .int r_1), (0, .ref (A 15)), (1, .int x1), (2, .int x2), (4, .int x4)]) rfl ?_
            refine r_iinc C dX1_mostLeft_94 5 rfl (kn_1 _) (Nat.le_of_ble_eq_true rfl) (lv2 := [(4, .int (x4 + 1)), (3, .int t_5), (5, .int r_1), (0, .ref (A 15)), (1, .int x1), (2, .int x2)]) rfl ?_
            refine r_goto C (tgt := 29) dX1_mostLeft_97 rfl ?_
            exact r_sub [3, 4, 5, 1, 0] rfl (ih V_4 L_3 t_5 (x4 + 1) hf)
set_option maxRecDepth 100000 in
theorem w_X1_mostLeft_2 {X : XT} {E : EvT} {Z : Nat → Prop} {Q : State → Prop} {A : Nat → Nat} (C : Cx X (.code yX1_mostLeft cX1_mostLeft 6 (some .int)) cX1_mostLeft 6 RX1 rm_X1_mostLeft.frames rm_X1_mostLeft.locals) (K : Ck X E Z) {r0 : Int32} {V0 : Nat → Nat → Int32} {L0 : Nat → Int64} (hret : RI X 6 cX1_mostLeft (IF X E Z (cw E A)) Q .int r0 (V0, L0)) (x1 : Int32) (x2 : Int32) : ∀ (n : Nat) (V : Nat → Nat → Int32) (L : Nat → Int64) (x3 : Int32), f_X1_mostLeft_2 x1 x2 n V L x3 = some (r0, V0, L0) → Wm X 6 (IF X E Z (cw E A)) Q 2 [(0, .ref (A 15)), (1, .int x1), (2, .int x2), (3, .int x3)] [] (V, L) := by
  intro n
  induction n with
  | zero =>
    intro V L x3 hf
    exact none_e hf
  | succ n ih =>
    intro V L x3 hf
    rw [f_X1_mostLeft_2] at hf
    refine r_iload_n C dX1_mostLeft_2 3 rfl rfl ?_
    refine r_aload_n C dX1_mostLeft_3 0 rfl rfl ?_
    refine g_RX1_34_15 C K dX1_mostLeft_4 ?_
    refine s_alen C K (cw_a19 E A _ _) (r := 8) (by decide) dX1_mostLeft_7 ?_
    refine r_icmp_ge C (tgt := 24) dX1_mostLeft_8 rfl hf (fun hf => ?_) (fun hf => ?_)
    · refine r_iconst C dX1_mostLeft_24 ki_0 ?_
      refine r_istore_n C dX1_mostLeft_25 rfl (Nat.le_of_ble_eq_true rfl) (lv2 := [(3, .int (0 : Int32)), (0, .ref (A 15)), (1, .int x1), (2, .int x2)]) rfl ?_
      refine r_iconst C dX1_mostLeft_26 ki_1 ?_
      refine r_istore C dX1_mostLeft_27 (Nat.le_of_ble_eq_true rfl) (lv2 := [(4, .int (1 : Int32)), (3, .int (0 : Int32)), (0, .ref (A 15)), (1, .int x1), (2, .int x2)]) rfl ?_
      exact r_sub [2, 3, 4, 1, 0] rfl (w_X1_mostLeft_29 C K hret x1 x2 20000 V L (0 : Int32) (1 : Int32) hf)
    · refine r_aload_n C dX1_mostLeft_11 0 rfl rfl ?_
      refine g_RX1_34_15 C K dX1_mostLeft_12 ?_
      refine r_iload_n C dX1_mostLeft_15 3 rfl rfl ?_
      refine r_iconst C dX1_mostLeft_16 ki_0 ?_
      refine s_iast C K (cw_a19 E A _ _) (fun z => cw_s19 E A _ _ _) dX1_mostLeft_17 hf (fun V_1 hf => ?_)
      refine r_iinc C dX1_mostLeft_18 3 rfl (kn_1 _) (Nat.le_of_ble_eq_true rfl) (lv2 := [(3, .int (x3 + 1)), (0, .ref (A 15)), (1, .int x1), (2, .int x2)]) rfl ?_
      refine r_goto C (tgt := 2) dX1_mostLeft_21 rfl ?_
      exact r_sub [1, 2, 3, 0] rfl (ih V_1 L (x3 + 1) hf)
set_option maxRecDepth 100000 in
theorem w_X1_mostLeft_0 {X : XT} {E : EvT} {Z : Nat → Prop} {Q : State → Prop} {A : Nat → Nat} (C : Cx X (.code yX1_mostLeft cX1_mostLeft 6 (some .int)) cX1_mostLeft 6 RX1 rm_X1_mostLeft.frames rm_X1_mostLeft.locals) (K : Ck X E Z) {r0 : Int32} {V0 : Nat → Nat → Int32} {L0 : Nat → Int64} (hret : RI X 6 cX1_mostLeft (IF X E Z (cw E A)) Q .int r0 (V0, L0)) : ∀ (V : Nat → Nat → Int32) (L : Nat → Int64) (x1 : Int32) (x2 : Int32), f_X1_mostLeft V L x1 x2 = some (r0, V0, L0) → Wm X 6 (IF X E Z (cw E A)) Q 0 [(0, .ref (A 15)), (1, .int x1), (2, .int x2)] [] (V, L) := by
  intro V L x1 x2 hf
  rw [f_X1_mostLeft] at hf
  refine r_iconst C dX1_mostLeft_0 ki_0 ?_
  refine r_istore_n C dX1_mostLeft_1 rfl (Nat.le_of_ble_eq_true rfl) (lv2 := [(3, .int (0 : Int32)), (0, .ref (A 15)), (1, .int x1), (2, .int x2)]) rfl ?_
  exact r_sub [1, 2, 3, 0] rfl (w_X1_mostLeft_2 C K hret x1 x2 20000 V L (0 : Int32) hf)
theorem t_X1_mostLeft (l : Launch) {E : EvT} {A : Nat → Nat} {V : Nat → Nat → Int32} {L : Nat → Int64} (x1 : Int32) (x2 : Int32) {r0 : Int32} {V0 : Nat → Nat → Int32} {L0 : Nat → Int64} (hq : f_X1_mostLeft V L x1 x2 = some (r0, V0, L0)) : KI l yX1_mostLeft (.code yX1_mostLeft cX1_mostLeft 6 (some .int) :: wA) rm_X1_mostLeft E (cw E A V L) (cw E A V0 L0) [.ref (A 15), .int x1, .int x2] r0 := by
  refine ent_I (own := RX1) (ty := .int) (lv0 := [(0, .ref (A 15)), (1, .int x1), (2, .int x2)]) (by decide) rfl rfl (Nat.le_of_ble_eq_true rfl) rfl (cw_fst _ _ _ _ _ _) ?_
  intro X Z Q hl C K hret
  exact w_X1_mostLeft_0 C K hret V L x1 x2 hq
set_option maxRecDepth 100000 in
theorem w_X1_tellingStart_27 {X : XT} {E : EvT} {Z : Nat → Prop} {Q : State → Prop} {A : Nat → Nat} (C : Cx X (.code yX1_tellingStart cX1_tellingStart 6 (some .int)) cX1_tellingStart 6 RX1 rm_X1_tellingStart.frames rm_X1_tellingStart.locals) (K : Ck X E Z) {r0 : Int32} {V0 : Nat → Nat → Int32} {L0 : Nat → Int64} (hret : RI X 6 cX1_tellingStart (IF X E Z (cw E A)) Q .int r0 (V0, L0)) (x1 : Int32) : ∀ (n : Nat) (V : Nat → Nat → Int32) (L : Nat → Int64) (x2 : Int32) (x3 : Int32) (x4 : Int32), f_X1_tellingStart_27 x1 n V L x2 x3 x4 = some (r0, V0, L0) → Wm X 6 (IF X E Z (cw E A)) Q 27 [(0, .ref (A 15)), (1, .int x1), (2, .int x2), (3, .int x3), (4, .int x4)] [] (V, L) := by
  intro n
  induction n with
  | zero =>
    intro V L x2 x3 x4 hf
    exact none_e hf
  | succ n ih =>
    intro V L x2 x3 x4 hf
    rw [f_X1_tellingStart_27] at hf
    refine r_iload C dX1_tellingStart_27 4 rfl ?_
    refine r_aload_n C dX1_tellingStart_29 0 rfl rfl ?_
    refine g_RX1_37_15 C K dX1_tellingStart_30 ?_
    refine g_RX1_41_5 C K dX1_tellingStart_33 ?_
    refine g_RX1_68_6 C K dX1_tellingStart_36 ?_
    refine r_icmp_ge C (tgt := 69) dX1_tellingStart_39 rfl hf (fun hf => ?_) (fun hf => ?_)
    · refine r_iload_n C dX1_tellingStart_69 2 rfl rfl ?_
      exact ri_OW hret hf dX1_tellingStart_70 rfl
    · refine r_aload_n C dX1_tellingStart_42 0 rfl rfl ?_
      refine r_iload C dX1_tellingStart_43 4 rfl ?_
      refine r_iload_n C dX1_tellingStart_45 1 rfl rfl ?_
      refine bd3_e hf (fun r_1 V_2 L_3 hq hf => ?_)
      refine f_callI C K cal_RX1_124 ⟨rfl, rfl, Nat.le_of_ble_eq_true rfl, Nat.le_of_ble_eq_true rfl⟩ (t_X1_mostLeft _ x4 x1 hq) (cw_o15 E A _ _) rfl (cw_fst _ _ _ _ _ _) rfl (rest := []) rfl (Nat.le_of_ble_eq_true rfl) dX1_tellingStart_46 ?_
      refine r_istore C dX1_tellingStart_49 (Nat.le_of_ble_eq_true rfl) (lv2 := [(5, .int r_1), (0, .ref (A 15)), (1, .int x1), (2, .int x2), (3, .int x3), (4, .int x4)]) rfl ?_
      refine r_iload C dX1_tellingStart_51 0 rfl ?_
      refine r_iload_n C dX1_tellingStart_53 4 rfl rfl ?_
      refine r_icmp_ge C (tgt := 63) dX1_tellingStart_54 rfl hf (fun hf => ?_) (fun hf => ?_)
      · refine r_iinc C dX1_tellingStart_63 5 rfl (kn_1 _) (Nat.le_of_ble_eq_true rfl) (lv2 := [(4, .int (x4 + 1)), (5, .int r_1), (0, .ref (A 15)), (1, .int x1), (2, .int x2), (3, .int x3)]) rfl ?_
        refine r_goto C (tgt := 27) dX1_tellingStart_66 rfl ?_
        exact r_sub [2, 3, 4, 5, 0] rfl (ih V_2 L_3 x2 x3 (x4 + 1) hf)
      · refine r_iload C dX1_tellingStart_57 0 rfl ?_
        refine r_istore_n C dX1_tellingStart_59 rfl (Nat.le_of_ble_eq_true rfl) (lv2 := [(3, .int r_1), (5, .int r_1), (0, .ref (A 15)), (1, .int x1), (2, .int x2), (4, .int x4)]) rfl ?_
        refine r_iload C dX1_tellingStart_60 5 rfl ?_
        refine r_istore_n C dX1_tellingStart_62 rfl (Nat.le_of_ble_eq_true rfl) (lv2 := [(2, .int x4), (3, .int r_1), (5, .int r_1), (0, .ref (A 15)), (1, .int x1), (4, .int x4)]) rfl ?_
        refine r_iinc C dX1_tellingStart_63 5 rfl (kn_1 _) (Nat.le_of_ble_eq_true rfl) (lv2 := [(4, .int (x4 + 1)), (2, .int x4), (3, .int r_1), (5, .int r_1), (0, .ref (A 15)), (1, .int x1)]) rfl ?_
        refine r_goto C (tgt := 27) dX1_tellingStart_66 rfl ?_
        exact r_sub [4, 5, 1, 2, 0] rfl (ih V_2 L_3 x4 r_1 (x4 + 1) hf)
set_option maxRecDepth 100000 in
theorem w_X1_tellingStart_0 {X : XT} {E : EvT} {Z : Nat → Prop} {Q : State → Prop} {A : Nat → Nat} (C : Cx X (.code yX1_tellingStart cX1_tellingStart 6 (some .int)) cX1_tellingStart 6 RX1 rm_X1_tellingStart.frames rm_X1_tellingStart.locals) (K : Ck X E Z) {r0 : Int32} {V0 : Nat → Nat → Int32} {L0 : Nat → Int64} (hret : RI X 6 cX1_tellingStart (IF X E Z (cw E A)) Q .int r0 (V0, L0)) : ∀ (V : Nat → Nat → Int32) (L : Nat → Int64) (x1 : Int32), f_X1_tellingStart V L x1 = some (r0, V0, L0) → Wm X 6 (IF X E Z (cw E A)) Q 0 [(0, .ref (A 15)), (1, .int x1)] [] (V, L) := by
  intro V L x1 hf
  rw [f_X1_tellingStart] at hf
  refine r_iload_n C dX1_tellingStart_0 1 rfl rfl ?_
  refine r_if_eq C (tgt := 17) dX1_tellingStart_1 rfl hf (fun hf => ?_) (fun hf => ?_)
  · refine r_iconst C dX1_tellingStart_17 ki_m1 ?_
    exact ri_OW hret hf dX1_tellingStart_18 rfl
  · refine r_aload_n C dX1_tellingStart_4 0 rfl rfl ?_
    refine g_RX1_37_15 C K dX1_tellingStart_5 ?_
    refine g_RX1_41_5 C K dX1_tellingStart_8 ?_
    refine s_callIr C K jc6 cal_RX1_86 ⟨rfl, rfl, Nat.le_of_ble_eq_true rfl, Nat.le_of_ble_eq_true rfl⟩ (t_X0_canCount _ jc6) rfl (rest := []) rfl (Nat.le_of_ble_eq_true rfl) dX1_tellingStart_11 ?_
    refine r_if_ne C (tgt := 19) dX1_tellingStart_14 rfl hf (fun hf => ?_) (fun hf => ?_)
    · refine r_iconst C dX1_tellingStart_19 ki_m1 ?_
      refine r_istore_n C dX1_tellingStart_20 rfl (Nat.le_of_ble_eq_true rfl) (lv2 := [(2, .int (-1 : Int32)), (0, .ref (A 15)), (1, .int x1)]) rfl ?_
      refine r_bipush C dX1_tellingStart_21 kb_25 ?_
      refine r_istore_n C dX1_tellingStart_23 rfl (Nat.le_of_ble_eq_true rfl) (lv2 := [(3, .int (25 : Int32)), (2, .int (-1 : Int32)), (0, .ref (A 15)), (1, .int x1)]) rfl ?_
      refine r_iconst C dX1_tellingStart_24 ki_0 ?_
      refine r_istore C dX1_tellingStart_25 (Nat.le_of_ble_eq_true rfl) (lv2 := [(4, .int (0 : Int32)), (3, .int (25 : Int32)), (2, .int (-1 : Int32)), (0, .ref (A 15)), (1, .int x1)]) rfl ?_
      exact r_sub [3, 4, 2, 1, 0] rfl (w_X1_tellingStart_27 C K hret x1 20000 V L (-1 : Int32) (25 : Int32) (0 : Int32) hf)
    · refine r_iconst C dX1_tellingStart_17 ki_m1 ?_
      exact ri_OW hret hf dX1_tellingStart_18 rfl
theorem t_X1_tellingStart (l : Launch) {E : EvT} {A : Nat → Nat} {V : Nat → Nat → Int32} {L : Nat → Int64} (x1 : Int32) {r0 : Int32} {V0 : Nat → Nat → Int32} {L0 : Nat → Int64} (hq : f_X1_tellingStart V L x1 = some (r0, V0, L0)) : KI l yX1_tellingStart (.code yX1_tellingStart cX1_tellingStart 6 (some .int) :: wA) rm_X1_tellingStart E (cw E A V L) (cw E A V0 L0) [.ref (A 15), .int x1] r0 := by
  refine ent_I (own := RX1) (ty := .int) (lv0 := [(0, .ref (A 15)), (1, .int x1)]) (by decide) rfl rfl (Nat.le_of_ble_eq_true rfl) rfl (cw_fst _ _ _ _ _ _) ?_
  intro X Z Q hl C K hret
  exact w_X1_tellingStart_0 C K hret V L x1 hq
set_option maxRecDepth 100000 in
theorem w_X1_beatsDrawn_27 {X : XT} {E : EvT} {Z : Nat → Prop} {Q : State → Prop} {A : Nat → Nat} (C : Cx X (.code yX1_beatsDrawn cX1_beatsDrawn 3 (some .int)) cX1_beatsDrawn 3 RX1 rm_X1_beatsDrawn.frames rm_X1_beatsDrawn.locals) (K : Ck X E Z) {r0 : Int32} {V : Nat → Nat → Int32} {L : Nat → Int64} (hret : RI X 3 cX1_beatsDrawn (IF X E Z (cw E A)) Q .int r0 (V, L)) : ∀ (x2 : Int32), f_X1_beatsDrawn_27 V L x2 = some r0 → Wm X 3 (IF X E Z (cw E A)) Q 27 [(0, .ref (A 15)), (2, .int x2)] [] (V, L) := by
  intro x2 hf
  rw [f_X1_beatsDrawn_27] at hf
  refine r_aload_n C dX1_beatsDrawn_27 0 rfl rfl ?_
  refine g_RX1_37_15 C K dX1_beatsDrawn_28 ?_
  refine r_iload_n C dX1_beatsDrawn_31 1 rfl rfl ?_
  refine f_callI C K cal_RX1_94 ⟨rfl, rfl, Nat.le_of_ble_eq_true rfl, Nat.le_of_ble_eq_true rfl⟩ (t_X3_hasVerse _ x2) (cw_o5 E A _ _) rfl (cw_fst _ _ _ _ _ _) rfl (rest := []) rfl (Nat.le_of_ble_eq_true rfl) dX1_beatsDrawn_32 ?_
  refine r_if_eq C (tgt := 50) dX1_beatsDrawn_35 rfl hf (fun hf => ?_) (fun hf => ?_)
  · refine r_iconst C dX1_beatsDrawn_50 ki_1 ?_
    exact ri_OR hret hf dX1_beatsDrawn_51 rfl
  · refine r_aload_n C dX1_beatsDrawn_38 0 rfl rfl ?_
    refine g_RX1_37_15 C K dX1_beatsDrawn_39 ?_
    refine g_RX1_97_5 C K dX1_beatsDrawn_42 ?_
    refine r_iload_n C dX1_beatsDrawn_45 1 rfl rfl ?_
    refine s_iald C K (cw_a7 E A _ _) dX1_beatsDrawn_46 hf (fun hf => ?_)
    refine r_goto C (tgt := 51) dX1_beatsDrawn_47 rfl ?_
    exact ri_OR hret hf dX1_beatsDrawn_51 rfl
set_option maxRecDepth 100000 in
theorem w_X1_beatsDrawn_0 {X : XT} {E : EvT} {Z : Nat → Prop} {Q : State → Prop} {A : Nat → Nat} (C : Cx X (.code yX1_beatsDrawn cX1_beatsDrawn 3 (some .int)) cX1_beatsDrawn 3 RX1 rm_X1_beatsDrawn.frames rm_X1_beatsDrawn.locals) (K : Ck X E Z) {r0 : Int32} {V : Nat → Nat → Int32} {L : Nat → Int64} (hret : RI X 3 cX1_beatsDrawn (IF X E Z (cw E A)) Q .int r0 (V, L)) : ∀ (x1 : Int32), f_X1_beatsDrawn V L x1 = some r0 → Wm X 3 (IF X E Z (cw E A)) Q 0 [(0, .ref (A 15)), (1, .int x1)] [] (V, L) := by
  intro x1 hf
  rw [f_X1_beatsDrawn] at hf
  refine r_aload_n C dX1_beatsDrawn_0 0 rfl rfl ?_
  refine g_RX1_37_15 C K dX1_beatsDrawn_1 ?_
  refine g_RX1_144_5 C K dX1_beatsDrawn_4 ?_
  refine r_if_le C (tgt := 25) dX1_beatsDrawn_7 rfl hf (fun hf => ?_) (fun hf => ?_)
  · refine r_iconst C dX1_beatsDrawn_25 ki_0 ?_
    refine r_istore_n C dX1_beatsDrawn_26 rfl (Nat.le_of_ble_eq_true rfl) (lv2 := [(2, .int (0 : Int32)), (0, .ref (A 15)), (1, .int x1)]) rfl ?_
    exact r_sub [1, 0] rfl (w_X1_beatsDrawn_27 C K hret (0 : Int32) hf)
  · refine r_iload_n C dX1_beatsDrawn_10 1 rfl rfl ?_
    refine r_ldc C q_k_RX1_147 dX1_beatsDrawn_11 ?_
    refine r_idiv C dX1_beatsDrawn_13 (by decide) ?_
    refine r_aload_n C dX1_beatsDrawn_14 0 rfl rfl ?_
    refine g_RX1_37_15 C K dX1_beatsDrawn_15 ?_
    refine g_RX1_144_5 C K dX1_beatsDrawn_18 ?_
    refine gd_ni hf (fun hne hf => ?_)
    refine p_irem C dX1_beatsDrawn_21 hne ?_
    refine r_goto C (tgt := 26) dX1_beatsDrawn_22 rfl ?_
    refine b_int hf (fun t_1 hf => ?_)
    refine r_istore_n C dX1_beatsDrawn_26 rfl (Nat.le_of_ble_eq_true rfl) (lv2 := [(2, .int t_1), (0, .ref (A 15)), (1, .int x1)]) rfl ?_
    exact r_sub [1, 0] rfl (w_X1_beatsDrawn_27 C K hret t_1 hf)
theorem t_X1_beatsDrawn (l : Launch) {E : EvT} {A : Nat → Nat} {V : Nat → Nat → Int32} {L : Nat → Int64} (x1 : Int32) {r0 : Int32} (hq : f_X1_beatsDrawn V L x1 = some r0) : KI l yX1_beatsDrawn (.code yX1_beatsDrawn cX1_beatsDrawn 3 (some .int) :: wA) rm_X1_beatsDrawn E (cw E A V L) (cw E A V L) [.ref (A 15), .int x1] r0 := by
  refine ent_I (own := RX1) (ty := .int) (lv0 := [(0, .ref (A 15)), (1, .int x1)]) (by decide) rfl rfl (Nat.le_of_ble_eq_true rfl) rfl (cw_fst _ _ _ _ _ _) ?_
  intro X Z Q hl C K hret
  exact w_X1_beatsDrawn_0 C K hret  x1 hq
set_option maxRecDepth 100000 in
theorem w_X1_playRounds_23 {X : XT} {E : EvT} {Z : Nat → Prop} {Q : State → Prop} {A : Nat → Nat} (C : Cx X (.code yX1_playRounds cX1_playRounds 7 (some .int)) cX1_playRounds 7 RX1 rm_X1_playRounds.frames rm_X1_playRounds.locals) (K : Ck X E Z) {r0 : Int32} {V0 : Nat → Nat → Int32} {L0 : Nat → Int64} (hret : RI X 7 cX1_playRounds (IF X E Z (cw E A)) Q .int r0 (V0, L0)) (x1 : Int32) (x3 : Int32) : ∀ (n : Nat) (V : Nat → Nat → Int32) (L : Nat → Int64) (x4 : Int32) (x5 : Int32) (x6 : Int32), f_X1_playRounds_23 x1 x3 n V L x4 x5 x6 = some (r0, V0, L0) → Wm X 7 (IF X E Z (cw E A)) Q 23 [(0, .ref (A 15)), (1, .int x1), (3, .int x3), (4, .int x4), (5, .int x5), (6, .int x6)] [] (V, L) := by
  intro n
  induction n with
  | zero =>
    intro V L x4 x5 x6 hf
    exact none_e hf
  | succ n ih =>
    intro V L x4 x5 x6 hf
    rw [f_X1_playRounds_23] at hf
    refine r_iload C dX1_playRounds_23 5 rfl ?_
    refine r_iload_n C dX1_playRounds_25 1 rfl rfl ?_
    refine r_icmp_ge C (tgt := 90) dX1_playRounds_26 rfl hf (fun hf => ?_) (fun hf => ?_)
    · refine r_iload_n C dX1_playRounds_90 2 rfl rfl ?_
      refine r_if_ne C (tgt := 97) dX1_playRounds_91 rfl hf (fun hf => ?_) (fun hf => ?_)
      · refine r_iload_n C dX1_playRounds_97 2 rfl rfl ?_
        refine r_iconst C dX1_playRounds_98 ki_1 ?_
        refine r_icmp_ne C (tgt := 112) dX1_playRounds_99 rfl hf (fun hf => ?_) (fun hf => ?_)
        · refine r_iload C dX1_playRounds_112 3 rfl ?_
          exact ri_OW hret hf dX1_playRounds_114 rfl
        · refine r_aload_n C dX1_playRounds_102 0 rfl rfl ?_
          refine g_RX1_12_15 C K dX1_playRounds_103 ?_
          refine g_RX1_50_16 C K dX1_playRounds_106 ?_
          refine r_goto C (tgt := 114) dX1_playRounds_109 rfl ?_
          exact ri_OW hret hf dX1_playRounds_114 rfl
      · refine r_iload C dX1_playRounds_94 4 rfl ?_
        exact ri_OW hret hf dX1_playRounds_96 rfl
    · refine r_aload_n C dX1_playRounds_29 0 rfl rfl ?_
      refine g_RX1_12_15 C K dX1_playRounds_30 ?_
      refine s_callIr C K jc16 cal_RX1_86 ⟨rfl, rfl, Nat.le_of_ble_eq_true rfl, Nat.le_of_ble_eq_true rfl⟩ (t_X0_canCount _ jc16) rfl (rest := []) rfl (Nat.le_of_ble_eq_true rfl) dX1_playRounds_33 ?_
      refine r_if_eq C (tgt := 74) dX1_playRounds_36 rfl hf (fun hf => ?_) (fun hf => ?_)
      · refine r_aload_n C dX1_playRounds_74 0 rfl rfl ?_
        refine g_RX1_12_15 C K dX1_playRounds_75 ?_
        refine s_callV C K jc16 cal_RX1_141 ⟨rfl, rfl, Nat.le_of_ble_eq_true rfl, Nat.le_of_ble_eq_true rfl⟩ (t_X0_allComeBack _ jc16) rfl (rest := []) rfl (Nat.le_of_ble_eq_true rfl) dX1_playRounds_78 ?_
        refine b_V hf (fun V_2 hf => ?_)
        refine r_iinc C dX1_playRounds_81 4 rfl (kn_1 _) (Nat.le_of_ble_eq_true rfl) (lv2 := [(5, .int (x5 + 1)), (0, .ref (A 15)), (1, .int x1), (3, .int x3), (4, .int x4), (6, .int x6)]) rfl ?_
        refine r_iinc C dX1_playRounds_84 5 rfl (kn_1 _) (Nat.le_of_ble_eq_true rfl) (lv2 := [(6, .int (x6 + 1)), (5, .int (x5 + 1)), (0, .ref (A 15)), (1, .int x1), (3, .int x3), (4, .int x4)]) rfl ?_
        refine r_goto C (tgt := 23) dX1_playRounds_87 rfl ?_
        exact r_sub [2, 3, 4, 5, 1, 0] rfl (ih V_2 L x4 (x5 + 1) (x6 + 1) hf)
      · refine r_ldc2 C q_kl_RX1_132 dX1_playRounds_39 ?_
        refine r_iload C dX1_playRounds_42 3 rfl ?_
        refine r_i2l C dX1_playRounds_44 ?_
        refine r_lmul C dX1_playRounds_45 ?_
        refine r_ldc2 C q_kl_RX1_134 dX1_playRounds_46 ?_
        refine r_ladd C dX1_playRounds_49 ?_
        refine r_ldc2 C q_kl_RX1_136 dX1_playRounds_50 ?_
        refine p_lrem C dX1_playRounds_53 (by decide) ?_
        refine r_l2i C dX1_playRounds_54 ?_
        refine b_int hf (fun t_3 hf => ?_)
        refine r_istore C dX1_playRounds_55 (Nat.le_of_ble_eq_true rfl) (lv2 := [(4, .int t_3), (0, .ref (A 15)), (1, .int x1), (3, .int x3), (5, .int x5), (6, .int x6)]) rfl ?_
        refine r_aload_n C dX1_playRounds_57 1 rfl rfl ?_
        refine g_RX1_12_15 C K dX1_playRounds_58 ?_
        refine r_aload_n C dX1_playRounds_61 1 rfl rfl ?_
        refine r_iload C dX1_playRounds_62 0 rfl ?_
        refine bd1_e hf (fun r_4 hq hf => ?_)
        refine f_callI C K cal_RX1_138 ⟨rfl, rfl, Nat.le_of_ble_eq_true rfl, Nat.le_of_ble_eq_true rfl⟩ (t_X1_beatsDrawn _ t_3 hq) (cw_o15 E A _ _) rfl (cw_fst _ _ _ _ _ _) rfl (rest := [.ref (A 16)]) rfl (Nat.le_of_ble_eq_true rfl) dX1_playRounds_64 ?_
        refine bd2_e hf (fun r_5 c_6 hq hf => ?_)
        refine s_callI C K jc16 cal_RX1_54 ⟨rfl, rfl, Nat.le_of_ble_eq_true rfl, Nat.le_of_ble_eq_true rfl⟩ (t_X0_putOut _ jc16 r_4 hq) rfl (rest := []) rfl (Nat.le_of_ble_eq_true rfl) dX1_playRounds_67 ?_
        refine b_V hf (fun V_7 hf => ?_)
        refine r_pop C dX1_playRounds_70 rfl ?_
        refine r_goto C (tgt := 84) dX1_playRounds_71 rfl ?_
        refine r_iinc C dX1_playRounds_84 5 rfl (kn_1 _) (Nat.le_of_ble_eq_true rfl) (lv2 := [(6, .int (x6 + 1)), (4, .int t_3), (0, .ref (A 15)), (1, .int x1), (3, .int x3), (5, .int x5)]) rfl ?_
        refine r_goto C (tgt := 23) dX1_playRounds_87 rfl ?_
        exact r_sub [2, 3, 4, 1, 5, 0] rfl (ih V_7 L t_3 x5 (x6 + 1) hf)
set_option maxRecDepth 100000 in
theorem w_X1_playRounds_0 {X : XT} {E : EvT} {Z : Nat → Prop} {Q : State → Prop} {A : Nat → Nat} (C : Cx X (.code yX1_playRounds cX1_playRounds 7 (some .int)) cX1_playRounds 7 RX1 rm_X1_playRounds.frames rm_X1_playRounds.locals) (K : Ck X E Z) {r0 : Int32} {V0 : Nat → Nat → Int32} {L0 : Nat → Int64} (hret : RI X 7 cX1_playRounds (IF X E Z (cw E A)) Q .int r0 (V0, L0)) : ∀ (V : Nat → Nat → Int32) (L : Nat → Int64) (x1 : Int32) (x2 : Int32) (x3 : Int32), f_X1_playRounds V L x1 x2 x3 = some (r0, V0, L0) → Wm X 7 (IF X E Z (cw E A)) Q 0 [(0, .ref (A 15)), (1, .int x1), (2, .int x2), (3, .int x3)] [] (V, L) := by
  intro V L x1 x2 x3 hf
  rw [f_X1_playRounds] at hf
  refine r_aload_n C dX1_playRounds_0 0 rfl rfl ?_
  refine g_RX1_12_15 C K dX1_playRounds_1 ?_
  refine r_aload_n C dX1_playRounds_4 0 rfl rfl ?_
  refine g_RX1_37_15 C K dX1_playRounds_5 ?_
  refine g_RX1_41_5 C K dX1_playRounds_8 ?_
  refine bd1_e hf (fun c_1 hq hf => ?_)
  refine s_callV C K jc16 cal_RX1_46 ⟨rfl, rfl, Nat.le_of_ble_eq_true rfl, Nat.le_of_ble_eq_true rfl⟩ (t_X0_takeAll _ jc16 jc6 (by decide) hq) rfl (rest := []) rfl (Nat.le_of_ble_eq_true rfl) dX1_playRounds_11 ?_
  refine b_V hf (fun V_2 hf => ?_)
  refine r_iload_n C dX1_playRounds_14 2 rfl rfl ?_
  refine r_istore C dX1_playRounds_15 (Nat.le_of_ble_eq_true rfl) (lv2 := [(4, .int x2), (0, .ref (A 15)), (1, .int x1), (2, .int x2), (3, .int x3)]) rfl ?_
  refine r_iconst C dX1_playRounds_17 ki_0 ?_
  refine r_istore C dX1_playRounds_18 (Nat.le_of_ble_eq_true rfl) (lv2 := [(5, .int (0 : Int32)), (4, .int x2), (0, .ref (A 15)), (1, .int x1), (2, .int x2), (3, .int x3)]) rfl ?_
  refine r_iconst C dX1_playRounds_20 ki_0 ?_
  refine r_istore C dX1_playRounds_21 (Nat.le_of_ble_eq_true rfl) (lv2 := [(6, .int (0 : Int32)), (5, .int (0 : Int32)), (4, .int x2), (0, .ref (A 15)), (1, .int x1), (2, .int x2), (3, .int x3)]) rfl ?_
  exact r_sub [3, 4, 6, 2, 1, 0] rfl (w_X1_playRounds_23 C K hret x1 x3 20000 V_2 L x2 (0 : Int32) (0 : Int32) hf)
theorem t_X1_playRounds (l : Launch) {E : EvT} {A : Nat → Nat} {V : Nat → Nat → Int32} {L : Nat → Int64} (x1 : Int32) (x2 : Int32) (x3 : Int32) {r0 : Int32} {V0 : Nat → Nat → Int32} {L0 : Nat → Int64} (hq : f_X1_playRounds V L x1 x2 x3 = some (r0, V0, L0)) : KI l yX1_playRounds (.code yX1_playRounds cX1_playRounds 7 (some .int) :: wA) rm_X1_playRounds E (cw E A V L) (cw E A V0 L0) [.ref (A 15), .int x1, .int x2, .int x3] r0 := by
  refine ent_I (own := RX1) (ty := .int) (lv0 := [(0, .ref (A 15)), (1, .int x1), (2, .int x2), (3, .int x3)]) (by decide) rfl rfl (Nat.le_of_ble_eq_true rfl) rfl (cw_fst _ _ _ _ _ _) ?_
  intro X Z Q hl C K hret
  exact w_X1_playRounds_0 C K hret V L x1 x2 x3 hq
