set_option maxRecDepth 100000 in
theorem w_X4_letter_0 {X : XT} {E : EvT} {Z : Nat → Prop} {Q : State → Prop} {A : Nat → Nat} (C : Cx X (.code yX4_letter cX4_letter 2 (some .int)) cX4_letter 2 RX4 rm_X4_letter.frames rm_X4_letter.locals) (K : Ck X E Z) {r0 : Int32} {V0 : Nat → Nat → Int32} {L0 : Nat → Int64} (hret : RI X 2 cX4_letter (IF X E Z (cw E A)) Q .int r0 (V0, L0)) : ∀ (V : Nat → Nat → Int32) (L : Nat → Int64) (x1 : Int32), f_X4_letter V L x1 = some (r0, V0, L0) → Wm X 2 (IF X E Z (cw E A)) Q 0 [(0, .ref (A 0)), (1, .int x1)] [] (V, L) := by
  intro V L x1 hf
  rw [f_X4_letter] at hf
  refine r_iload_n C dX4_letter_0 1 rfl rfl ?_
  refine r_bipush C dX4_letter_1 kb_32 ?_
  refine r_icmp_lt C (tgt := 12) dX4_letter_3 rfl hf (fun hf => ?_) (fun hf => ?_)
  · refine r_bipush C dX4_letter_12 kb_m102 ?_
    exact ri_OW hret hf dX4_letter_14 rfl
  · refine r_iload_n C dX4_letter_6 1 rfl rfl ?_
    refine r_bipush C dX4_letter_7 kb_126 ?_
    refine r_icmp_le C (tgt := 15) dX4_letter_9 rfl hf (fun hf => ?_) (fun hf => ?_)
    · refine r_aload_n C dX4_letter_15 0 rfl rfl ?_
      refine g_RX4_15_0 C K dX4_letter_16 ?_
      refine r_iload_n C dX4_letter_19 1 rfl rfl ?_
      refine bd3_e hf (fun r_1 V_2 L_3 hq hf => ?_)
      refine f_callI C K cal_RX4_35 ⟨rfl, rfl, Nat.le_of_ble_eq_true rfl, Nat.le_of_ble_eq_true rfl⟩ (t_X2_append _ x1 hq) (cw_o1 E A _ _) rfl (cw_fst _ _ _ _ _ _) rfl (rest := []) rfl (Nat.le_of_ble_eq_true rfl) dX4_letter_20 ?_
      refine r_if_eq C (tgt := 36) dX4_letter_23 rfl hf (fun hf => ?_) (fun hf => ?_)
      · refine r_bipush C dX4_letter_36 kb_m104 ?_
        exact ri_OW hret hf dX4_letter_38 rfl
      · refine r_aload_n C dX4_letter_26 0 rfl rfl ?_
        refine g_RX4_15_0 C K dX4_letter_27 ?_
        refine g_RX4_39_1 C K dX4_letter_30 ?_
        refine r_goto C (tgt := 38) dX4_letter_33 rfl ?_
        exact ri_OW hret hf dX4_letter_38 rfl
    · refine r_bipush C dX4_letter_12 kb_m102 ?_
      exact ri_OW hret hf dX4_letter_14 rfl
theorem t_X4_letter (l : Launch) {E : EvT} {A : Nat → Nat} {V : Nat → Nat → Int32} {L : Nat → Int64} (x1 : Int32) {r0 : Int32} {V0 : Nat → Nat → Int32} {L0 : Nat → Int64} (hq : f_X4_letter V L x1 = some (r0, V0, L0)) : KI l yX4_letter (.code yX4_letter cX4_letter 2 (some .int) :: wA) rm_X4_letter E (cw E A V L) (cw E A V0 L0) [.ref (A 0), .int x1] r0 := by
  refine ent_I (own := RX4) (ty := .int) (lv0 := [(0, .ref (A 0)), (1, .int x1)]) (by decide) rfl rfl (Nat.le_of_ble_eq_true rfl) rfl (cw_fst _ _ _ _ _ _) ?_
  intro X Z Q hl C K hret
  exact w_X4_letter_0 C K hret V L x1 hq
set_option maxRecDepth 100000 in
theorem w_X4_blank_0 {X : XT} {E : EvT} {Z : Nat → Prop} {Q : State → Prop} {A : Nat → Nat} (C : Cx X (.code yX4_blank cX4_blank 2 (some .int)) cX4_blank 2 RX4 rm_X4_blank.frames rm_X4_blank.locals) (K : Ck X E Z) {r0 : Int32} {V0 : Nat → Nat → Int32} {L0 : Nat → Int64} (hret : RI X 2 cX4_blank (IF X E Z (cw E A)) Q .int r0 (V0, L0)) : ∀ (V : Nat → Nat → Int32) (L : Nat → Int64), f_X4_blank V L = some (r0, V0, L0) → Wm X 2 (IF X E Z (cw E A)) Q 0 [(0, .ref (A 0))] [] (V, L) := by
  intro V L hf
  rw [f_X4_blank] at hf
  refine r_aload_n C dX4_blank_0 0 rfl rfl ?_
  refine g_RX4_15_0 C K dX4_blank_1 ?_
  refine g_RX4_39_1 C K dX4_blank_4 ?_
  refine r_istore_n C dX4_blank_7 rfl (Nat.le_of_ble_eq_true rfl) (lv2 := [(1, .int (V 1 1)), (0, .ref (A 0))]) rfl ?_
  refine r_aload_n C dX4_blank_8 1 rfl rfl ?_
  refine g_RX4_15_0 C K dX4_blank_9 ?_
  refine r_iconst C dX4_blank_12 ki_0 ?_
  refine p_RX4_39_1 C K dX4_blank_13 hf (fun V_1 hf => ?_)
  refine r_iload_n C dX4_blank_16 0 rfl rfl ?_
  exact ri_OW hret hf dX4_blank_17 rfl
theorem t_X4_blank (l : Launch) {E : EvT} {A : Nat → Nat} {V : Nat → Nat → Int32} {L : Nat → Int64} {r0 : Int32} {V0 : Nat → Nat → Int32} {L0 : Nat → Int64} (hq : f_X4_blank V L = some (r0, V0, L0)) : KI l yX4_blank (.code yX4_blank cX4_blank 2 (some .int) :: wA) rm_X4_blank E (cw E A V L) (cw E A V0 L0) [.ref (A 0)] r0 := by
  refine ent_I (own := RX4) (ty := .int) (lv0 := [(0, .ref (A 0))]) (by decide) rfl rfl (Nat.le_of_ble_eq_true rfl) rfl (cw_fst _ _ _ _ _ _) ?_
  intro X Z Q hl C K hret
  exact w_X4_blank_0 C K hret V L  hq
set_option maxRecDepth 100000 in
theorem w_X4_fault_0 {X : XT} {E : EvT} {Z : Nat → Prop} {Q : State → Prop} {A : Nat → Nat} (C : Cx X (.code yX4_fault cX4_fault 1 (some .int)) cX4_fault 1 RX4 rm_X4_fault.frames rm_X4_fault.locals) (K : Ck X E Z) {r0 : Int32} {V0 : Nat → Nat → Int32} {L0 : Nat → Int64} (hret : RI X 1 cX4_fault (IF X E Z (cw E A)) Q .int r0 (V0, L0)) : ∀ (V : Nat → Nat → Int32) (L : Nat → Int64), f_X4_fault V L = some (r0, V0, L0) → Wm X 1 (IF X E Z (cw E A)) Q 0 [(0, .ref (A 0))] [] (V, L) := by
  intro V L hf
  rw [f_X4_fault] at hf
  refine r_aload_n C dX4_fault_0 0 rfl rfl ?_
  refine g_RX4_15_0 C K dX4_fault_1 ?_
  refine bd3_e hf (fun r_1 V_2 L_3 hq hf => ?_)
  refine f_callI C K cal_RX4_43 ⟨rfl, rfl, Nat.le_of_ble_eq_true rfl, Nat.le_of_ble_eq_true rfl⟩ (t_X2_firstFault _ hq) (cw_o1 E A _ _) rfl (cw_fst _ _ _ _ _ _) rfl (rest := []) rfl (Nat.le_of_ble_eq_true rfl) dX4_fault_4 ?_
  exact ri_OW hret hf dX4_fault_7 rfl
theorem t_X4_fault (l : Launch) {E : EvT} {A : Nat → Nat} {V : Nat → Nat → Int32} {L : Nat → Int64} {r0 : Int32} {V0 : Nat → Nat → Int32} {L0 : Nat → Int64} (hq : f_X4_fault V L = some (r0, V0, L0)) : KI l yX4_fault (.code yX4_fault cX4_fault 1 (some .int) :: wA) rm_X4_fault E (cw E A V L) (cw E A V0 L0) [.ref (A 0)] r0 := by
  refine ent_I (own := RX4) (ty := .int) (lv0 := [(0, .ref (A 0))]) (by decide) rfl rfl (Nat.le_of_ble_eq_true rfl) rfl (cw_fst _ _ _ _ _ _) ?_
  intro X Z Q hl C K hret
  exact w_X4_fault_0 C K hret V L  hq
set_option maxRecDepth 100000 in
theorem w_X4_ring_0 {X : XT} {E : EvT} {Z : Nat → Prop} {Q : State → Prop} {A : Nat → Nat} (C : Cx X (.code yX4_ring cX4_ring 1 (some .int)) cX4_ring 1 RX4 rm_X4_ring.frames rm_X4_ring.locals) (K : Ck X E Z) {r0 : Int32} {V0 : Nat → Nat → Int32} {L0 : Nat → Int64} (hret : RI X 1 cX4_ring (IF X E Z (cw E A)) Q .int r0 (V0, L0)) : ∀ (V : Nat → Nat → Int32) (L : Nat → Int64), f_X4_ring V L = some (r0, V0, L0) → Wm X 1 (IF X E Z (cw E A)) Q 0 [(0, .ref (A 0))] [] (V, L) := by
  intro V L hf
  rw [f_X4_ring] at hf
  refine r_aload_n C dX4_ring_0 0 rfl rfl ?_
  refine g_RX4_15_0 C K dX4_ring_1 ?_
  refine bd3_e hf (fun r_1 V_2 L_3 hq hf => ?_)
  refine f_callI C K cal_RX4_47 ⟨rfl, rfl, Nat.le_of_ble_eq_true rfl, Nat.le_of_ble_eq_true rfl⟩ (t_X2_isRing _ hq) (cw_o1 E A _ _) rfl (cw_fst _ _ _ _ _ _) rfl (rest := []) rfl (Nat.le_of_ble_eq_true rfl) dX4_ring_4 ?_
  refine r_if_ne C (tgt := 13) dX4_ring_7 rfl hf (fun hf => ?_) (fun hf => ?_)
  · refine r_aload_n C dX4_ring_13 0 rfl rfl ?_
    refine g_RX4_19_0 C K dX4_ring_14 ?_
    refine r_aload_n C dX4_ring_17 0 rfl rfl ?_
    refine g_RX4_15_0 C K dX4_ring_18 ?_
    refine bd2_e hf (fun V_4 L_5 hq hf => ?_)
    refine f_callV C K cal_RX4_51 ⟨rfl, rfl, Nat.le_of_ble_eq_true rfl, Nat.le_of_ble_eq_true rfl⟩ (t_X3_setUp _ hq) (cw_o5 E A _ _) rfl (cw_fst _ _ _ _ _ _) rfl (rest := []) rfl (Nat.le_of_ble_eq_true rfl) dX4_ring_21 ?_
    refine r_aload_n C dX4_ring_24 0 rfl rfl ?_
    refine g_RX4_15_0 C K dX4_ring_25 ?_
    refine r_iconst C dX4_ring_28 ki_0 ?_
    refine p_RX4_39_1 C K dX4_ring_29 hf (fun V_6 hf => ?_)
    refine r_aload_n C dX4_ring_32 0 rfl rfl ?_
    refine r_iconst C dX4_ring_33 ki_0 ?_
    refine p_RX4_55_0 rfl C K dX4_ring_34 hf (fun V_7 hf => ?_)
    refine r_aload_n C dX4_ring_37 0 rfl rfl ?_
    refine r_dup C dX4_ring_38 rfl ?_
    refine g_RX4_59_0 C K dX4_ring_39 ?_
    refine r_iconst C dX4_ring_42 ki_1 ?_
    refine r_iadd C dX4_ring_43 ?_
    refine p_RX4_59_0 C K dX4_ring_44 hf (fun V_8 hf => ?_)
    refine r_aload_n C dX4_ring_47 0 rfl rfl ?_
    refine g_RX4_19_0 C K dX4_ring_48 ?_
    refine g_RX4_62_5 C K dX4_ring_51 ?_
    refine g_RX4_66_6 C K dX4_ring_54 ?_
    exact ri_OW hret hf dX4_ring_57 rfl
  · refine r_bipush C dX4_ring_10 kb_m103 ?_
    exact ri_OW hret hf dX4_ring_12 rfl
theorem t_X4_ring (l : Launch) {E : EvT} {A : Nat → Nat} {V : Nat → Nat → Int32} {L : Nat → Int64} {r0 : Int32} {V0 : Nat → Nat → Int32} {L0 : Nat → Int64} (hq : f_X4_ring V L = some (r0, V0, L0)) : KI l yX4_ring (.code yX4_ring cX4_ring 1 (some .int) :: wA) rm_X4_ring E (cw E A V L) (cw E A V0 L0) [.ref (A 0)] r0 := by
  refine ent_I (own := RX4) (ty := .int) (lv0 := [(0, .ref (A 0))]) (by decide) rfl rfl (Nat.le_of_ble_eq_true rfl) rfl (cw_fst _ _ _ _ _ _) ?_
  intro X Z Q hl C K hret
  exact w_X4_ring_0 C K hret V L  hq
set_option maxRecDepth 100000 in
theorem w_X4_child_0 {X : XT} {E : EvT} {Z : Nat → Prop} {Q : State → Prop} {A : Nat → Nat} (C : Cx X (.code yX4_child cX4_child 4 (some .int)) cX4_child 4 RX4 rm_X4_child.frames rm_X4_child.locals) (K : Ck X E Z) {r0 : Int32} {V0 : Nat → Nat → Int32} {L0 : Nat → Int64} (hret : RI X 4 cX4_child (IF X E Z (cw E A)) Q .int r0 (V0, L0)) : ∀ (V : Nat → Nat → Int32) (L : Nat → Int64) (x1 : Int32) (x2 : Int32), f_X4_child V L x1 x2 = some (r0, V0, L0) → Wm X 4 (IF X E Z (cw E A)) Q 0 [(0, .ref (A 0)), (1, .int x1), (2, .int x2)] [] (V, L) := by
  intro V L x1 x2 hf
  rw [f_X4_child] at hf
  refine r_aload_n C dX4_child_0 0 rfl rfl ?_
  refine g_RX4_19_0 C K dX4_child_1 ?_
  refine r_iload_n C dX4_child_4 1 rfl rfl ?_
  refine f_callI C K cal_RX4_69 ⟨rfl, rfl, Nat.le_of_ble_eq_true rfl, Nat.le_of_ble_eq_true rfl⟩ (t_X3_hasChild _ x1) (cw_o5 E A _ _) rfl (cw_fst _ _ _ _ _ _) rfl (rest := []) rfl (Nat.le_of_ble_eq_true rfl) dX4_child_5 ?_
  refine r_if_ne C (tgt := 14) dX4_child_8 rfl hf (fun hf => ?_) (fun hf => ?_)
  · refine r_aload_n C dX4_child_14 0 rfl rfl ?_
    refine g_RX4_19_0 C K dX4_child_15 ?_
    refine g_RX4_62_5 C K dX4_child_18 ?_
    refine r_astore_n C dX4_child_21 rfl (Nat.le_of_ble_eq_true rfl) (lv2 := [(3, .ref (A 6)), (0, .ref (A 0)), (1, .int x1), (2, .int x2)]) rfl ?_
    refine r_iload_n C dX4_child_22 3 rfl rfl ?_
    refine br_if hf (fun hq hf => ?_) (fun h0 hf => ?_)
    · refine r_tblIn C (off := 37) (tgt := 60) dX4_child_23 (by rw [hq]; decide) (by rw [hq]; decide) (by rw [hq]; rfl) rfl ?_
      refine r_aload_n C dX4_child_60 0 rfl rfl ?_
      refine r_iload_n C dX4_child_61 2 rfl rfl ?_
      refine s_callIr C K jc6 cal_RX4_72 ⟨rfl, rfl, Nat.le_of_ble_eq_true rfl, Nat.le_of_ble_eq_true rfl⟩ (t_X0_kindOf _ jc6 x1) rfl (rest := []) rfl (Nat.le_of_ble_eq_true rfl) dX4_child_62 ?_
      exact ri_OW hret hf dX4_child_65 rfl
    refine br_if hf (fun hq hf => ?_) (fun h1 hf => ?_)
    · refine r_tblIn C (off := 43) (tgt := 66) dX4_child_23 (by rw [hq]; decide) (by rw [hq]; decide) (by rw [hq]; rfl) rfl ?_
      refine r_aload_n C dX4_child_66 0 rfl rfl ?_
      refine r_iload_n C dX4_child_67 2 rfl rfl ?_
      refine s_callIr C K jc6 cal_RX4_76 ⟨rfl, rfl, Nat.le_of_ble_eq_true rfl, Nat.le_of_ble_eq_true rfl⟩ (t_X0_isIn _ jc6 x1) rfl (rest := []) rfl (Nat.le_of_ble_eq_true rfl) dX4_child_68 ?_
      refine r_if_eq C (tgt := 78) dX4_child_71 rfl hf (fun hf => ?_) (fun hf => ?_)
      · refine r_iconst C dX4_child_78 ki_0 ?_
        exact ri_OW hret hf dX4_child_79 rfl
      · refine r_iconst C dX4_child_74 ki_1 ?_
        refine r_goto C (tgt := 79) dX4_child_75 rfl ?_
        exact ri_OW hret hf dX4_child_79 rfl
    refine br_if hf (fun hq hf => ?_) (fun h2 hf => ?_)
    · refine r_tblIn C (off := 57) (tgt := 80) dX4_child_23 (by rw [hq]; decide) (by rw [hq]; decide) (by rw [hq]; rfl) rfl ?_
      refine r_aload_n C dX4_child_80 0 rfl rfl ?_
      refine r_iload_n C dX4_child_81 2 rfl rfl ?_
      refine s_callIr C K jc6 cal_RX4_79 ⟨rfl, rfl, Nat.le_of_ble_eq_true rfl, Nat.le_of_ble_eq_true rfl⟩ (t_X0_hasSlipped _ jc6 x1) rfl (rest := []) rfl (Nat.le_of_ble_eq_true rfl) dX4_child_82 ?_
      refine r_if_eq C (tgt := 92) dX4_child_85 rfl hf (fun hf => ?_) (fun hf => ?_)
      · refine r_iconst C dX4_child_92 ki_0 ?_
        exact ri_OW hret hf dX4_child_93 rfl
      · refine r_iconst C dX4_child_88 ki_1 ?_
        refine r_goto C (tgt := 93) dX4_child_89 rfl ?_
        exact ri_OW hret hf dX4_child_93 rfl
    refine br_if hf (fun hq hf => ?_) (fun h3 hf => ?_)
    · refine r_tblIn C (off := 71) (tgt := 94) dX4_child_23 (by rw [hq]; decide) (by rw [hq]; decide) (by rw [hq]; rfl) rfl ?_
      refine r_aload_n C dX4_child_94 0 rfl rfl ?_
      refine r_iload_n C dX4_child_95 2 rfl rfl ?_
      refine s_callIr C K jc6 cal_RX4_82 ⟨rfl, rfl, Nat.le_of_ble_eq_true rfl, Nat.le_of_ble_eq_true rfl⟩ (t_X0_takenBy _ jc6 x1) rfl (rest := []) rfl (Nat.le_of_ble_eq_true rfl) dX4_child_96 ?_
      exact ri_OW hret hf dX4_child_99 rfl
    refine br_if hf (fun hq hf => ?_) (fun h4 hf => ?_)
    · refine r_tblIn C (off := 77) (tgt := 100) dX4_child_23 (by rw [hq]; decide) (by rw [hq]; decide) (by rw [hq]; rfl) rfl ?_
      refine r_aload_n C dX4_child_100 1 rfl rfl ?_
      refine g_RX4_31_0 C K dX4_child_101 ?_
      refine r_iload_n C dX4_child_104 2 rfl rfl ?_
      refine bd3_e hf (fun r_1 V_2 L_3 hq hf => ?_)
      refine f_callI C K cal_RX4_85 ⟨rfl, rfl, Nat.le_of_ble_eq_true rfl, Nat.le_of_ble_eq_true rfl⟩ (t_X1_fewestBeats _ x1 hq) (cw_o15 E A _ _) rfl (cw_fst _ _ _ _ _ _) rfl (rest := []) rfl (Nat.le_of_ble_eq_true rfl) dX4_child_105 ?_
      exact ri_OW hret hf dX4_child_108 rfl
    refine br_if hf (fun hq hf => ?_) (fun h5 hf => ?_)
    · refine r_tblIn C (off := 86) (tgt := 109) dX4_child_23 (by rw [hq]; decide) (by rw [hq]; decide) (by rw [hq]; rfl) rfl ?_
      refine r_aload_n C dX4_child_109 0 rfl rfl ?_
      refine g_RX4_88_6 C K dX4_child_110 ?_
      refine r_iload_n C dX4_child_113 2 rfl rfl ?_
      refine r_icmp_ne C (tgt := 121) dX4_child_114 rfl hf (fun hf => ?_) (fun hf => ?_)
      · refine r_iconst C dX4_child_121 ki_0 ?_
        exact ri_OW hret hf dX4_child_122 rfl
      · refine r_iconst C dX4_child_117 ki_1 ?_
        refine r_goto C (tgt := 122) dX4_child_118 rfl ?_
        exact ri_OW hret hf dX4_child_122 rfl
    refine r_tblOut C (tgt := 123) dX4_child_23 (by have q0 := lv_neT (a := 0) h0 rfl; have q1 := lv_neT (a := 1) h1 rfl; have q2 := lv_neT (a := 2) h2 rfl; have q3 := lv_neT (a := 3) h3 rfl; have q4 := lv_neT (a := 4) h4 rfl; have q5 := lv_neT (a := 5) h5 rfl; omega) rfl ?_
    refine r_bipush C dX4_child_123 kb_m102 ?_
    exact ri_OW hret hf dX4_child_125 rfl
  · refine r_bipush C dX4_child_11 kb_m101 ?_
    exact ri_OW hret hf dX4_child_13 rfl
theorem t_X4_child (l : Launch) {E : EvT} {A : Nat → Nat} {V : Nat → Nat → Int32} {L : Nat → Int64} (x1 : Int32) (x2 : Int32) {r0 : Int32} {V0 : Nat → Nat → Int32} {L0 : Nat → Int64} (hq : f_X4_child V L x1 x2 = some (r0, V0, L0)) : KI l yX4_child (.code yX4_child cX4_child 4 (some .int) :: wA) rm_X4_child E (cw E A V L) (cw E A V0 L0) [.ref (A 0), .int x1, .int x2] r0 := by
  refine ent_I (own := RX4) (ty := .int) (lv0 := [(0, .ref (A 0)), (1, .int x1), (2, .int x2)]) (by decide) rfl rfl (Nat.le_of_ble_eq_true rfl) rfl (cw_fst _ _ _ _ _ _) ?_
  intro X Z Q hl C K hret
  exact w_X4_child_0 C K hret V L x1 x2 hq
set_option maxRecDepth 100000 in
theorem w_X4_isKind_0 {X : XT} {Q : State → Prop} (C : Cx X (.code yX4_isKind cX4_isKind 1 (some .boolean)) cX4_isKind 1 RX4 rm_X4_isKind.frames rm_X4_isKind.locals) {r0 : Int32} (hret : RI X 1 cX4_isKind (IP X) Q .boolean r0 ()) : ∀ (x0 : Int32), f_X4_isKind x0 = r0 → Wm X 1 (IP X) Q 0 [(0, .int x0)] [] () := by
  intro x0 hf
  rw [f_X4_isKind] at hf
  refine r_iload_n C dX4_isKind_0 0 rfl rfl ?_
  refine r_if_lt C (tgt := 13) dX4_isKind_1 rfl hf (fun hf => ?_) (fun hf => ?_)
  · refine r_iconst C dX4_isKind_13 ki_0 ?_
    exact ri_T hret hf dX4_isKind_14 rfl
  · refine r_iload_n C dX4_isKind_4 0 rfl rfl ?_
    refine r_iconst C dX4_isKind_5 ki_4 ?_
    refine r_icmp_gt C (tgt := 13) dX4_isKind_6 rfl hf (fun hf => ?_) (fun hf => ?_)
    · refine r_iconst C dX4_isKind_13 ki_0 ?_
      exact ri_T hret hf dX4_isKind_14 rfl
    · refine r_iconst C dX4_isKind_9 ki_1 ?_
      refine r_goto C (tgt := 14) dX4_isKind_10 rfl ?_
      exact ri_T hret hf dX4_isKind_14 rfl
theorem t_X4_isKind (l : Launch) (x0 : Int32) : KP l yX4_isKind (.code yX4_isKind cX4_isKind 1 (some .boolean) :: wA) rm_X4_isKind [.int x0] (f_X4_isKind x0) := by
  refine ent_P (own := RX4) (ty := .boolean) (lv0 := [(0, .int x0)]) (by decide) rfl rfl (Nat.le_of_ble_eq_true rfl) rfl ?_
  intro X Q hl C hret
  exact w_X4_isKind_0 C hret x0 rfl
set_option maxRecDepth 100000 in
theorem w_X4_as_62 {X : XT} {E : EvT} {Z : Nat → Prop} {Q : State → Prop} {A : Nat → Nat} (C : Cx X (.code yX4_as cX4_as 5 (some .int)) cX4_as 5 RX4 rm_X4_as.frames rm_X4_as.locals) (K : Ck X E Z) {r0 : Int32} {V : Nat → Nat → Int32} {L : Nat → Int64} (hret : RI X 5 cX4_as (IF X E Z (cw E A)) Q .int r0 (V, L)) : ∀ (x1 : Int32) (x4 : Int32), f_X4_as_62 V L x1 x4 = r0 → Wm X 5 (IF X E Z (cw E A)) Q 62 [(1, .int x1), (4, .int x4)] [] (V, L) := by
  intro x1 x4 hf
  rw [f_X4_as_62] at hf
  refine r_iload C dX4_as_62 1 rfl ?_
  refine r_if_eq C (tgt := 71) dX4_as_64 rfl hf (fun hf => ?_) (fun hf => ?_)
  · refine r_iconst C dX4_as_71 ki_m1 ?_
    exact ri_T hret hf dX4_as_72 rfl
  · refine r_iload_n C dX4_as_67 0 rfl rfl ?_
    refine r_goto C (tgt := 72) dX4_as_68 rfl ?_
    exact ri_T hret hf dX4_as_72 rfl
set_option maxRecDepth 100000 in
theorem w_X4_as_0 {X : XT} {E : EvT} {Z : Nat → Prop} {Q : State → Prop} {A : Nat → Nat} (C : Cx X (.code yX4_as cX4_as 5 (some .int)) cX4_as 5 RX4 rm_X4_as.frames rm_X4_as.locals) (K : Ck X E Z) {r0 : Int32} {V : Nat → Nat → Int32} {L : Nat → Int64} (hret : RI X 5 cX4_as (IF X E Z (cw E A)) Q .int r0 (V, L)) : ∀ (x1 : Int32) (x2 : Int32), f_X4_as V L x1 x2 = r0 → Wm X 5 (IF X E Z (cw E A)) Q 0 [(0, .ref (A 0)), (1, .int x1), (2, .int x2)] [] (V, L) := by
  intro x1 x2 hf
  rw [f_X4_as] at hf
  refine r_aload_n C dX4_as_0 0 rfl rfl ?_
  refine g_RX4_19_0 C K dX4_as_1 ?_
  refine r_iload_n C dX4_as_4 1 rfl rfl ?_
  refine f_callI C K cal_RX4_69 ⟨rfl, rfl, Nat.le_of_ble_eq_true rfl, Nat.le_of_ble_eq_true rfl⟩ (t_X3_hasChild _ x1) (cw_o5 E A _ _) rfl (cw_fst _ _ _ _ _ _) rfl (rest := []) rfl (Nat.le_of_ble_eq_true rfl) dX4_as_5 ?_
  refine r_if_ne C (tgt := 14) dX4_as_8 rfl hf (fun hf => ?_) (fun hf => ?_)
  · refine r_iload_n C dX4_as_14 2 rfl rfl ?_
    refine r_callP C cas_RX4_91 ⟨rfl, rfl, Nat.le_of_ble_eq_true rfl, Nat.le_of_ble_eq_true rfl⟩ (t_X4_isKind _ x2) rfl (rest := []) rfl (Nat.le_of_ble_eq_true rfl) dX4_as_15 ?_
    refine r_if_ne C (tgt := 24) dX4_as_18 rfl hf (fun hf => ?_) (fun hf => ?_)
    · refine r_aload_n C dX4_as_24 0 rfl rfl ?_
      refine g_RX4_19_0 C K dX4_as_25 ?_
      refine g_RX4_62_5 C K dX4_as_28 ?_
      refine r_iload_n C dX4_as_31 1 rfl rfl ?_
      refine s_callIr C K jc6 cal_RX4_72 ⟨rfl, rfl, Nat.le_of_ble_eq_true rfl, Nat.le_of_ble_eq_true rfl⟩ (t_X0_kindOf _ jc6 x1) rfl (rest := []) rfl (Nat.le_of_ble_eq_true rfl) dX4_as_32 ?_
      refine r_istore_n C dX4_as_35 rfl (Nat.le_of_ble_eq_true rfl) (lv2 := [(3, .int (f_X0_kindOf (V 6) x1)), (0, .ref (A 0)), (1, .int x1), (2, .int x2)]) rfl ?_
      refine r_iload_n C dX4_as_36 3 rfl rfl ?_
      refine r_if_eq C (tgt := 55) dX4_as_37 rfl hf (fun hf => ?_) (fun hf => ?_)
      · refine r_iconst C dX4_as_55 ki_1 ?_
        refine r_goto C (tgt := 60) dX4_as_56 rfl ?_
        refine r_istore C dX4_as_60 (Nat.le_of_ble_eq_true rfl) (lv2 := [(4, .int (1 : Int32)), (3, .int (f_X0_kindOf (V 6) x1)), (0, .ref (A 0)), (1, .int x1), (2, .int x2)]) rfl ?_
        exact r_sub [3, 0] rfl (w_X4_as_62 C K hret x1 (1 : Int32) hf)
      · refine r_iload_n C dX4_as_40 3 rfl rfl ?_
        refine r_iload_n C dX4_as_41 0 rfl rfl ?_
        refine r_icmp_eq C (tgt := 55) dX4_as_42 rfl hf (fun hf => ?_) (fun hf => ?_)
        · refine r_iconst C dX4_as_55 ki_1 ?_
          refine r_goto C (tgt := 60) dX4_as_56 rfl ?_
          refine r_istore C dX4_as_60 (Nat.le_of_ble_eq_true rfl) (lv2 := [(4, .int (1 : Int32)), (3, .int (f_X0_kindOf (V 6) x1)), (0, .ref (A 0)), (1, .int x1), (2, .int x2)]) rfl ?_
          exact r_sub [3, 0] rfl (w_X4_as_62 C K hret x1 (1 : Int32) hf)
        · refine r_iload_n C dX4_as_45 3 rfl rfl ?_
          refine r_iconst C dX4_as_46 ki_3 ?_
          refine r_icmp_ne C (tgt := 59) dX4_as_47 rfl hf (fun hf => ?_) (fun hf => ?_)
          · refine r_iconst C dX4_as_59 ki_0 ?_
            refine r_istore C dX4_as_60 (Nat.le_of_ble_eq_true rfl) (lv2 := [(4, .int (0 : Int32)), (3, .int (f_X0_kindOf (V 6) x1)), (0, .ref (A 0)), (1, .int x1), (2, .int x2)]) rfl ?_
            exact r_sub [3, 0] rfl (w_X4_as_62 C K hret x1 (0 : Int32) hf)
          · refine r_iload_n C dX4_as_50 0 rfl rfl ?_
            refine r_iconst C dX4_as_51 ki_4 ?_
            refine r_icmp_ne C (tgt := 59) dX4_as_52 rfl hf (fun hf => ?_) (fun hf => ?_)
            · refine r_iconst C dX4_as_59 ki_0 ?_
              refine r_istore C dX4_as_60 (Nat.le_of_ble_eq_true rfl) (lv2 := [(4, .int (0 : Int32)), (3, .int (f_X0_kindOf (V 6) x1)), (0, .ref (A 0)), (1, .int x1), (2, .int x2)]) rfl ?_
              exact r_sub [3, 0] rfl (w_X4_as_62 C K hret x1 (0 : Int32) hf)
            · refine r_iconst C dX4_as_55 ki_1 ?_
              refine r_goto C (tgt := 60) dX4_as_56 rfl ?_
              refine r_istore C dX4_as_60 (Nat.le_of_ble_eq_true rfl) (lv2 := [(4, .int (1 : Int32)), (3, .int (f_X0_kindOf (V 6) x1)), (0, .ref (A 0)), (1, .int x1), (2, .int x2)]) rfl ?_
              exact r_sub [3, 0] rfl (w_X4_as_62 C K hret x1 (1 : Int32) hf)
    · refine r_bipush C dX4_as_21 kb_m102 ?_
      exact ri_T hret hf dX4_as_23 rfl
  · refine r_bipush C dX4_as_11 kb_m101 ?_
    exact ri_T hret hf dX4_as_13 rfl
theorem t_X4_as (l : Launch) {E : EvT} {A : Nat → Nat} {V : Nat → Nat → Int32} {L : Nat → Int64} (x1 : Int32) (x2 : Int32) : KI l yX4_as (.code yX4_as cX4_as 5 (some .int) :: wA) rm_X4_as E (cw E A V L) (cw E A V L) [.ref (A 0), .int x1, .int x2] (f_X4_as V L x1 x2) := by
  refine ent_I (own := RX4) (ty := .int) (lv0 := [(0, .ref (A 0)), (1, .int x1), (2, .int x2)]) (by decide) rfl rfl (Nat.le_of_ble_eq_true rfl) rfl (cw_fst _ _ _ _ _ _) ?_
  intro X Z Q hl C K hret
  exact w_X4_as_0 C K hret  x1 x2 rfl
set_option maxRecDepth 100000 in
theorem w_X4_verse_0 {X : XT} {E : EvT} {Z : Nat → Prop} {Q : State → Prop} {A : Nat → Nat} (C : Cx X (.code yX4_verse cX4_verse 4 (some .int)) cX4_verse 4 RX4 rm_X4_verse.frames rm_X4_verse.locals) (K : Ck X E Z) {r0 : Int32} {V0 : Nat → Nat → Int32} {L0 : Nat → Int64} (hret : RI X 4 cX4_verse (IF X E Z (cw E A)) Q .int r0 (V0, L0)) : ∀ (V : Nat → Nat → Int32) (L : Nat → Int64) (x1 : Int32) (x2 : Int32), f_X4_verse V L x1 x2 = some (r0, V0, L0) → Wm X 4 (IF X E Z (cw E A)) Q 0 [(0, .ref (A 0)), (1, .int x1), (2, .int x2)] [] (V, L) := by
  intro V L x1 x2 hf
  rw [f_X4_verse] at hf
  refine r_aload_n C dX4_verse_0 0 rfl rfl ?_
  refine g_RX4_19_0 C K dX4_verse_1 ?_
  refine r_iload_n C dX4_verse_4 1 rfl rfl ?_
  refine f_callI C K cal_RX4_94 ⟨rfl, rfl, Nat.le_of_ble_eq_true rfl, Nat.le_of_ble_eq_true rfl⟩ (t_X3_hasVerse _ x1) (cw_o5 E A _ _) rfl (cw_fst _ _ _ _ _ _) rfl (rest := []) rfl (Nat.le_of_ble_eq_true rfl) dX4_verse_5 ?_
  refine r_if_ne C (tgt := 14) dX4_verse_8 rfl hf (fun hf => ?_) (fun hf => ?_)
  · refine r_aload_n C dX4_verse_14 0 rfl rfl ?_
    refine g_RX4_19_0 C K dX4_verse_15 ?_
    refine g_RX4_97_5 C K dX4_verse_18 ?_
    refine r_iload_n C dX4_verse_21 1 rfl rfl ?_
    refine s_iald C K (cw_a7 E A _ _) dX4_verse_22 hf (fun hf => ?_)
    refine r_istore_n C dX4_verse_23 rfl (Nat.le_of_ble_eq_true rfl) (lv2 := [(3, .int (V 7 x1.toNatClampNeg)), (0, .ref (A 0)), (1, .int x1), (2, .int x2)]) rfl ?_
    refine r_iload_n C dX4_verse_24 3 rfl rfl ?_
    refine br_if hf (fun hq hf => ?_) (fun h0 hf => ?_)
    · refine r_tblIn C (off := 27) (tgt := 52) dX4_verse_25 (by rw [hq]; decide) (by rw [hq]; decide) (by rw [hq]; rfl) rfl ?_
      refine r_iload_n C dX4_verse_52 0 rfl rfl ?_
      exact ri_OW hret hf dX4_verse_53 rfl
    refine br_if hf (fun hq hf => ?_) (fun h1 hf => ?_)
    · refine r_tblIn C (off := 29) (tgt := 54) dX4_verse_25 (by rw [hq]; decide) (by rw [hq]; decide) (by rw [hq]; rfl) rfl ?_
      refine r_aload_n C dX4_verse_54 1 rfl rfl ?_
      refine g_RX4_31_0 C K dX4_verse_55 ?_
      refine r_aload_n C dX4_verse_58 1 rfl rfl ?_
      refine g_RX4_19_0 C K dX4_verse_59 ?_
      refine g_RX4_62_5 C K dX4_verse_62 ?_
      refine g_RX4_88_6 C K dX4_verse_65 ?_
      refine r_iload_n C dX4_verse_68 0 rfl rfl ?_
      refine bd3_e hf (fun r_1 V_2 L_3 hq hf => ?_)
      refine f_callI C K cal_RX4_101 ⟨rfl, rfl, Nat.le_of_ble_eq_true rfl, Nat.le_of_ble_eq_true rfl⟩ (t_X1_outBy _ (V 6 7) (V 7 x1.toNatClampNeg) hq) (cw_o15 E A _ _) rfl (cw_fst _ _ _ _ _ _) rfl (rest := []) rfl (Nat.le_of_ble_eq_true rfl) dX4_verse_69 ?_
      exact ri_OW hret hf dX4_verse_72 rfl
    refine br_if hf (fun hq hf => ?_) (fun h2 hf => ?_)
    · refine r_tblIn C (off := 48) (tgt := 73) dX4_verse_25 (by rw [hq]; decide) (by rw [hq]; decide) (by rw [hq]; rfl) rfl ?_
      refine r_aload_n C dX4_verse_73 1 rfl rfl ?_
      refine g_RX4_31_0 C K dX4_verse_74 ?_
      refine r_iload_n C dX4_verse_77 0 rfl rfl ?_
      refine bd3_e hf (fun r_4 V_5 L_6 hq hf => ?_)
      refine f_callI C K cal_RX4_105 ⟨rfl, rfl, Nat.le_of_ble_eq_true rfl, Nat.le_of_ble_eq_true rfl⟩ (t_X1_leftBy _ (V 7 x1.toNatClampNeg) hq) (cw_o15 E A _ _) rfl (cw_fst _ _ _ _ _ _) rfl (rest := []) rfl (Nat.le_of_ble_eq_true rfl) dX4_verse_78 ?_
      exact ri_OW hret hf dX4_verse_81 rfl
    refine r_tblOut C (tgt := 82) dX4_verse_25 (by have q0 := lv_neT (a := 0) h0 rfl; have q1 := lv_neT (a := 1) h1 rfl; have q2 := lv_neT (a := 2) h2 rfl; omega) rfl ?_
    refine r_bipush C dX4_verse_82 kb_m102 ?_
    exact ri_OW hret hf dX4_verse_84 rfl
  · refine r_bipush C dX4_verse_11 kb_m101 ?_
    exact ri_OW hret hf dX4_verse_13 rfl
theorem t_X4_verse (l : Launch) {E : EvT} {A : Nat → Nat} {V : Nat → Nat → Int32} {L : Nat → Int64} (x1 : Int32) (x2 : Int32) {r0 : Int32} {V0 : Nat → Nat → Int32} {L0 : Nat → Int64} (hq : f_X4_verse V L x1 x2 = some (r0, V0, L0)) : KI l yX4_verse (.code yX4_verse cX4_verse 4 (some .int) :: wA) rm_X4_verse E (cw E A V L) (cw E A V0 L0) [.ref (A 0), .int x1, .int x2] r0 := by
  refine ent_I (own := RX4) (ty := .int) (lv0 := [(0, .ref (A 0)), (1, .int x1), (2, .int x2)]) (by decide) rfl rfl (Nat.le_of_ble_eq_true rfl) rfl (cw_fst _ _ _ _ _ _) ?_
  intro X Z Q hl C K hret
  exact w_X4_verse_0 C K hret V L x1 x2 hq
set_option maxRecDepth 100000 in
theorem w_X4_say_0 {X : XT} {E : EvT} {Z : Nat → Prop} {Q : State → Prop} {A : Nat → Nat} (C : Cx X (.code yX4_say cX4_say 2 (some .int)) cX4_say 2 RX4 rm_X4_say.frames rm_X4_say.locals) (K : Ck X E Z) {r0 : Int32} {V0 : Nat → Nat → Int32} {L0 : Nat → Int64} (hret : RI X 2 cX4_say (IF X E Z (cw E A)) Q .int r0 (V0, L0)) : ∀ (V : Nat → Nat → Int32) (L : Nat → Int64) (x1 : Int32), f_X4_say V L x1 = some (r0, V0, L0) → Wm X 2 (IF X E Z (cw E A)) Q 0 [(0, .ref (A 0)), (1, .int x1)] [] (V, L) := by
  intro V L x1 hf
  rw [f_X4_say] at hf
  refine r_aload_n C dX4_say_0 0 rfl rfl ?_
  refine g_RX4_19_0 C K dX4_say_1 ?_
  refine r_iload_n C dX4_say_4 1 rfl rfl ?_
  refine f_callI C K cal_RX4_94 ⟨rfl, rfl, Nat.le_of_ble_eq_true rfl, Nat.le_of_ble_eq_true rfl⟩ (t_X3_hasVerse _ x1) (cw_o5 E A _ _) rfl (cw_fst _ _ _ _ _ _) rfl (rest := []) rfl (Nat.le_of_ble_eq_true rfl) dX4_say_5 ?_
  refine r_if_ne C (tgt := 14) dX4_say_8 rfl hf (fun hf => ?_) (fun hf => ?_)
  · refine r_aload_n C dX4_say_14 0 rfl rfl ?_
    refine g_RX4_19_0 C K dX4_say_15 ?_
    refine g_RX4_62_5 C K dX4_say_18 ?_
    refine s_callIr C K jc6 cal_RX4_108 ⟨rfl, rfl, Nat.le_of_ble_eq_true rfl, Nat.le_of_ble_eq_true rfl⟩ (t_X0_canCount _ jc6) rfl (rest := []) rfl (Nat.le_of_ble_eq_true rfl) dX4_say_21 ?_
    refine r_if_ne C (tgt := 30) dX4_say_24 rfl hf (fun hf => ?_) (fun hf => ?_)
    · refine r_aload_n C dX4_say_30 0 rfl rfl ?_
      refine g_RX4_19_0 C K dX4_say_31 ?_
      refine g_RX4_111_5 C K dX4_say_34 ?_
      refine r_sipush C dX4_say_37 ks_999 ?_
      refine r_icmp_lt C (tgt := 46) dX4_say_40 rfl hf (fun hf => ?_) (fun hf => ?_)
      · refine r_aload_n C dX4_say_46 0 rfl rfl ?_
        refine g_RX4_19_0 C K dX4_say_47 ?_
        refine r_dup C dX4_say_50 rfl ?_
        refine g_RX4_111_5 C K dX4_say_51 ?_
        refine r_iconst C dX4_say_54 ki_1 ?_
        refine r_iadd C dX4_say_55 ?_
        refine p_RX4_111_5 C K dX4_say_56 hf (fun V_1 hf => ?_)
        refine r_aload_n C dX4_say_59 0 rfl rfl ?_
        refine g_RX4_19_0 C K dX4_say_60 ?_
        refine g_RX4_62_5 C K dX4_say_63 ?_
        refine r_aload_n C dX4_say_66 0 rfl rfl ?_
        refine g_RX4_19_0 C K dX4_say_67 ?_
        refine g_RX4_97_5 C K dX4_say_70 ?_
        refine r_iload_n C dX4_say_73 1 rfl rfl ?_
        refine s_iald C K (cw_a7 E A _ _) dX4_say_74 hf (fun hf => ?_)
        refine bd2_e hf (fun r_2 c_3 hq hf => ?_)
        refine s_callI C K jc6 cal_RX4_114 ⟨rfl, rfl, Nat.le_of_ble_eq_true rfl, Nat.le_of_ble_eq_true rfl⟩ (t_X0_putOut _ jc6 (V_1 7 x1.toNatClampNeg) hq) rfl (rest := []) rfl (Nat.le_of_ble_eq_true rfl) dX4_say_75 ?_
        refine b_V hf (fun V_4 hf => ?_)
        exact ri_OW hret hf dX4_say_78 rfl
      · refine r_bipush C dX4_say_43 kb_m104 ?_
        exact ri_OW hret hf dX4_say_45 rfl
    · refine r_bipush C dX4_say_27 kb_m103 ?_
      exact ri_OW hret hf dX4_say_29 rfl
  · refine r_bipush C dX4_say_11 kb_m101 ?_
    exact ri_OW hret hf dX4_say_13 rfl
theorem t_X4_say (l : Launch) {E : EvT} {A : Nat → Nat} {V : Nat → Nat → Int32} {L : Nat → Int64} (x1 : Int32) {r0 : Int32} {V0 : Nat → Nat → Int32} {L0 : Nat → Int64} (hq : f_X4_say V L x1 = some (r0, V0, L0)) : KI l yX4_say (.code yX4_say cX4_say 2 (some .int) :: wA) rm_X4_say E (cw E A V L) (cw E A V0 L0) [.ref (A 0), .int x1] r0 := by
  refine ent_I (own := RX4) (ty := .int) (lv0 := [(0, .ref (A 0)), (1, .int x1)]) (by decide) rfl rfl (Nat.le_of_ble_eq_true rfl) rfl (cw_fst _ _ _ _ _ _) ?_
  intro X Z Q hl C K hret
  exact w_X4_say_0 C K hret V L x1 hq
set_option maxRecDepth 100000 in
theorem w_X4_back_0 {X : XT} {E : EvT} {Z : Nat → Prop} {Q : State → Prop} {A : Nat → Nat} (C : Cx X (.code yX4_back cX4_back 2 (some .int)) cX4_back 2 RX4 rm_X4_back.frames rm_X4_back.locals) (K : Ck X E Z) {r0 : Int32} {V0 : Nat → Nat → Int32} {L0 : Nat → Int64} (hret : RI X 2 cX4_back (IF X E Z (cw E A)) Q .int r0 (V0, L0)) : ∀ (V : Nat → Nat → Int32) (L : Nat → Int64) (x1 : Int32), f_X4_back V L x1 = some (r0, V0, L0) → Wm X 2 (IF X E Z (cw E A)) Q 0 [(0, .ref (A 0)), (1, .int x1)] [] (V, L) := by
  intro V L x1 hf
  rw [f_X4_back] at hf
  refine r_aload_n C dX4_back_0 0 rfl rfl ?_
  refine g_RX4_19_0 C K dX4_back_1 ?_
  refine r_iload_n C dX4_back_4 1 rfl rfl ?_
  refine f_callI C K cal_RX4_69 ⟨rfl, rfl, Nat.le_of_ble_eq_true rfl, Nat.le_of_ble_eq_true rfl⟩ (t_X3_hasChild _ x1) (cw_o5 E A _ _) rfl (cw_fst _ _ _ _ _ _) rfl (rest := []) rfl (Nat.le_of_ble_eq_true rfl) dX4_back_5 ?_
  refine r_if_ne C (tgt := 14) dX4_back_8 rfl hf (fun hf => ?_) (fun hf => ?_)
  · refine r_aload_n C dX4_back_14 0 rfl rfl ?_
    refine g_RX4_19_0 C K dX4_back_15 ?_
    refine g_RX4_62_5 C K dX4_back_18 ?_
    refine r_iload_n C dX4_back_21 1 rfl rfl ?_
    refine s_callIr C K jc6 cal_RX4_76 ⟨rfl, rfl, Nat.le_of_ble_eq_true rfl, Nat.le_of_ble_eq_true rfl⟩ (t_X0_isIn _ jc6 x1) rfl (rest := []) rfl (Nat.le_of_ble_eq_true rfl) dX4_back_22 ?_
    refine r_if_eq C (tgt := 31) dX4_back_25 rfl hf (fun hf => ?_) (fun hf => ?_)
    · refine r_aload_n C dX4_back_31 0 rfl rfl ?_
      refine g_RX4_19_0 C K dX4_back_32 ?_
      refine g_RX4_62_5 C K dX4_back_35 ?_
      refine r_dup C dX4_back_38 rfl ?_
      refine g_RX4_117_6 C K dX4_back_39 ?_
      refine r_iconst C dX4_back_42 ki_1 ?_
      refine r_iload_n C dX4_back_43 1 rfl rfl ?_
      refine p_ishl C dX4_back_44 ?_
      refine r_ior C dX4_back_45 ?_
      refine p_RX4_117_6 C K dX4_back_46 hf (fun V_1 hf => ?_)
      refine r_aload_n C dX4_back_49 0 rfl rfl ?_
      refine g_RX4_19_0 C K dX4_back_50 ?_
      refine g_RX4_62_5 C K dX4_back_53 ?_
      refine s_callIr C K jc6 cal_RX4_120 ⟨rfl, rfl, Nat.le_of_ble_eq_true rfl, Nat.le_of_ble_eq_true rfl⟩ (t_X0_howManyIn _ jc6) rfl (rest := []) rfl (Nat.le_of_ble_eq_true rfl) dX4_back_56 ?_
      exact ri_OW hret hf dX4_back_59 rfl
    · refine r_bipush C dX4_back_28 kb_m103 ?_
      exact ri_OW hret hf dX4_back_30 rfl
  · refine r_bipush C dX4_back_11 kb_m101 ?_
    exact ri_OW hret hf dX4_back_13 rfl
theorem t_X4_back (l : Launch) {E : EvT} {A : Nat → Nat} {V : Nat → Nat → Int32} {L : Nat → Int64} (x1 : Int32) {r0 : Int32} {V0 : Nat → Nat → Int32} {L0 : Nat → Int64} (hq : f_X4_back V L x1 = some (r0, V0, L0)) : KI l yX4_back (.code yX4_back cX4_back 2 (some .int) :: wA) rm_X4_back E (cw E A V L) (cw E A V0 L0) [.ref (A 0), .int x1] r0 := by
  refine ent_I (own := RX4) (ty := .int) (lv0 := [(0, .ref (A 0)), (1, .int x1)]) (by decide) rfl rfl (Nat.le_of_ble_eq_true rfl) rfl (cw_fst _ _ _ _ _ _) ?_
  intro X Z Q hl C K hret
  exact w_X4_back_0 C K hret V L x1 hq
set_option maxRecDepth 100000 in
theorem w_X4_first_0 {X : XT} {E : EvT} {Z : Nat → Prop} {Q : State → Prop} {A : Nat → Nat} (C : Cx X (.code yX4_first cX4_first 3 (some .int)) cX4_first 3 RX4 rm_X4_first.frames rm_X4_first.locals) (K : Ck X E Z) {r0 : Int32} {V0 : Nat → Nat → Int32} {L0 : Nat → Int64} (hret : RI X 3 cX4_first (IF X E Z (cw E A)) Q .int r0 (V0, L0)) : ∀ (V : Nat → Nat → Int32) (L : Nat → Int64) (x1 : Int32), f_X4_first V L x1 = some (r0, V0, L0) → Wm X 3 (IF X E Z (cw E A)) Q 0 [(0, .ref (A 0)), (1, .int x1)] [] (V, L) := by
  intro V L x1 hf
  rw [f_X4_first] at hf
  refine r_aload_n C dX4_first_0 0 rfl rfl ?_
  refine g_RX4_19_0 C K dX4_first_1 ?_
  refine r_iload_n C dX4_first_4 1 rfl rfl ?_
  refine f_callI C K cal_RX4_69 ⟨rfl, rfl, Nat.le_of_ble_eq_true rfl, Nat.le_of_ble_eq_true rfl⟩ (t_X3_hasChild _ x1) (cw_o5 E A _ _) rfl (cw_fst _ _ _ _ _ _) rfl (rest := []) rfl (Nat.le_of_ble_eq_true rfl) dX4_first_5 ?_
  refine r_if_ne C (tgt := 14) dX4_first_8 rfl hf (fun hf => ?_) (fun hf => ?_)
  · refine r_aload_n C dX4_first_14 0 rfl rfl ?_
    refine g_RX4_19_0 C K dX4_first_15 ?_
    refine g_RX4_62_5 C K dX4_first_18 ?_
    refine g_RX4_88_6 C K dX4_first_21 ?_
    refine r_istore_n C dX4_first_24 rfl (Nat.le_of_ble_eq_true rfl) (lv2 := [(2, .int (V 6 7)), (0, .ref (A 0)), (1, .int x1)]) rfl ?_
    refine r_aload_n C dX4_first_25 1 rfl rfl ?_
    refine g_RX4_19_0 C K dX4_first_26 ?_
    refine g_RX4_62_5 C K dX4_first_29 ?_
    refine r_iload_n C dX4_first_32 2 rfl rfl ?_
    refine p_RX4_88_6 C K dX4_first_33 hf (fun V_1 hf => ?_)
    refine r_iload_n C dX4_first_36 0 rfl rfl ?_
    exact ri_OW hret hf dX4_first_37 rfl
  · refine r_bipush C dX4_first_11 kb_m101 ?_
    exact ri_OW hret hf dX4_first_13 rfl
theorem t_X4_first (l : Launch) {E : EvT} {A : Nat → Nat} {V : Nat → Nat → Int32} {L : Nat → Int64} (x1 : Int32) {r0 : Int32} {V0 : Nat → Nat → Int32} {L0 : Nat → Int64} (hq : f_X4_first V L x1 = some (r0, V0, L0)) : KI l yX4_first (.code yX4_first cX4_first 3 (some .int) :: wA) rm_X4_first E (cw E A V L) (cw E A V0 L0) [.ref (A 0), .int x1] r0 := by
  refine ent_I (own := RX4) (ty := .int) (lv0 := [(0, .ref (A 0)), (1, .int x1)]) (by decide) rfl rfl (Nat.le_of_ble_eq_true rfl) rfl (cw_fst _ _ _ _ _ _) ?_
  intro X Z Q hl C K hret
  exact w_X4_first_0 C K hret V L x1 hq
set_option maxRecDepth 100000 in
theorem w_X4_turn_43 {X : XT} {E : EvT} {Z : Nat → Prop} {Q : State → Prop} {A : Nat → Nat} (C : Cx X (.code yX4_turn cX4_turn 2 (some .int)) cX4_turn 2 RX4 rm_X4_turn.frames rm_X4_turn.locals) (K : Ck X E Z) {r0 : Int32} {V0 : Nat → Nat → Int32} {L0 : Nat → Int64} (hret : RI X 2 cX4_turn (IF X E Z (cw E A)) Q .int r0 (V0, L0)) : ∀ (V : Nat → Nat → Int32) (L : Nat → Int64) (x1 : Int32), f_X4_turn_43 V L x1 = some (r0, V0, L0) → Wm X 2 (IF X E Z (cw E A)) Q 43 [(1, .int x1)] [] (V, L) := by
  intro V L x1 hf
  rw [f_X4_turn_43] at hf
  refine r_iload_n C dX4_turn_43 0 rfl rfl ?_
  refine r_if_eq C (tgt := 51) dX4_turn_44 rfl hf (fun hf => ?_) (fun hf => ?_)
  · refine r_iconst C dX4_turn_51 ki_0 ?_
    exact ri_OW hret hf dX4_turn_52 rfl
  · refine r_iconst C dX4_turn_47 ki_1 ?_
    refine r_goto C (tgt := 52) dX4_turn_48 rfl ?_
    exact ri_OW hret hf dX4_turn_52 rfl
set_option maxRecDepth 100000 in
theorem w_X4_turn_0 {X : XT} {E : EvT} {Z : Nat → Prop} {Q : State → Prop} {A : Nat → Nat} (C : Cx X (.code yX4_turn cX4_turn 2 (some .int)) cX4_turn 2 RX4 rm_X4_turn.frames rm_X4_turn.locals) (K : Ck X E Z) {r0 : Int32} {V0 : Nat → Nat → Int32} {L0 : Nat → Int64} (hret : RI X 2 cX4_turn (IF X E Z (cw E A)) Q .int r0 (V0, L0)) : ∀ (V : Nat → Nat → Int32) (L : Nat → Int64), f_X4_turn V L = some (r0, V0, L0) → Wm X 2 (IF X E Z (cw E A)) Q 0 [(0, .ref (A 0))] [] (V, L) := by
  intro V L hf
  rw [f_X4_turn] at hf
  refine r_aload_n C dX4_turn_0 0 rfl rfl ?_
  refine g_RX4_19_0 C K dX4_turn_1 ?_
  refine f_callI C K cal_RX4_123 ⟨rfl, rfl, Nat.le_of_ble_eq_true rfl, Nat.le_of_ble_eq_true rfl⟩ (t_X3_hasRing _) (cw_o5 E A _ _) rfl (cw_fst _ _ _ _ _ _) rfl (rest := []) rfl (Nat.le_of_ble_eq_true rfl) dX4_turn_4 ?_
  refine r_if_ne C (tgt := 13) dX4_turn_7 rfl hf (fun hf => ?_) (fun hf => ?_)
  · refine r_aload_n C dX4_turn_13 0 rfl rfl ?_
    refine g_RX4_19_0 C K dX4_turn_14 ?_
    refine g_RX4_62_5 C K dX4_turn_17 ?_
    refine g_RX4_126_6 C K dX4_turn_20 ?_
    refine r_istore_n C dX4_turn_23 rfl (Nat.le_of_ble_eq_true rfl) (lv2 := [(1, .int (V 6 8)), (0, .ref (A 0))]) rfl ?_
    refine r_aload_n C dX4_turn_24 1 rfl rfl ?_
    refine g_RX4_19_0 C K dX4_turn_25 ?_
    refine g_RX4_62_5 C K dX4_turn_28 ?_
    refine r_iload_n C dX4_turn_31 0 rfl rfl ?_
    refine r_if_ne C (tgt := 39) dX4_turn_32 rfl hf (fun hf => ?_) (fun hf => ?_)
    · refine r_iconst C dX4_turn_39 ki_0 ?_
      refine p_RX4_126_6 rfl C K dX4_turn_40 hf (fun V_1 hf => ?_)
      exact r_sub [0] rfl (w_X4_turn_43 C K hret V_1 L (V 6 8) hf)
    · refine r_iconst C dX4_turn_35 ki_1 ?_
      refine r_goto C (tgt := 40) dX4_turn_36 rfl ?_
      refine p_RX4_126_6 rfl C K dX4_turn_40 hf (fun V_2 hf => ?_)
      exact r_sub [0] rfl (w_X4_turn_43 C K hret V_2 L (V 6 8) hf)
  · refine r_bipush C dX4_turn_10 kb_m103 ?_
    exact ri_OW hret hf dX4_turn_12 rfl
theorem t_X4_turn (l : Launch) {E : EvT} {A : Nat → Nat} {V : Nat → Nat → Int32} {L : Nat → Int64} {r0 : Int32} {V0 : Nat → Nat → Int32} {L0 : Nat → Int64} (hq : f_X4_turn V L = some (r0, V0, L0)) : KI l yX4_turn (.code yX4_turn cX4_turn 2 (some .int) :: wA) rm_X4_turn E (cw E A V L) (cw E A V0 L0) [.ref (A 0)] r0 := by
  refine ent_I (own := RX4) (ty := .int) (lv0 := [(0, .ref (A 0))]) (by decide) rfl rfl (Nat.le_of_ble_eq_true rfl) rfl (cw_fst _ _ _ _ _ _) ?_
  intro X Z Q hl C K hret
  exact w_X4_turn_0 C K hret V L  hq
set_option maxRecDepth 100000 in
theorem w_X4_isBeats_0 {X : XT} {Q : State → Prop} (C : Cx X (.code yX4_isBeats cX4_isBeats 1 (some .boolean)) cX4_isBeats 1 RX4 rm_X4_isBeats.frames rm_X4_isBeats.locals) {r0 : Int32} (hret : RI X 1 cX4_isBeats (IP X) Q .boolean r0 ()) : ∀ (x0 : Int32), f_X4_isBeats x0 = r0 → Wm X 1 (IP X) Q 0 [(0, .int x0)] [] () := by
  intro x0 hf
  rw [f_X4_isBeats] at hf
  refine r_iload_n C dX4_isBeats_0 0 rfl rfl ?_
  refine r_iconst C dX4_isBeats_1 ki_1 ?_
  refine r_icmp_lt C (tgt := 15) dX4_isBeats_2 rfl hf (fun hf => ?_) (fun hf => ?_)
  · refine r_iconst C dX4_isBeats_15 ki_0 ?_
    exact ri_T hret hf dX4_isBeats_16 rfl
  · refine r_iload_n C dX4_isBeats_5 0 rfl rfl ?_
    refine r_bipush C dX4_isBeats_6 kb_99 ?_
    refine r_icmp_gt C (tgt := 15) dX4_isBeats_8 rfl hf (fun hf => ?_) (fun hf => ?_)
    · refine r_iconst C dX4_isBeats_15 ki_0 ?_
      exact ri_T hret hf dX4_isBeats_16 rfl
    · refine r_iconst C dX4_isBeats_11 ki_1 ?_
      refine r_goto C (tgt := 16) dX4_isBeats_12 rfl ?_
      exact ri_T hret hf dX4_isBeats_16 rfl
theorem t_X4_isBeats (l : Launch) (x0 : Int32) : KP l yX4_isBeats (.code yX4_isBeats cX4_isBeats 1 (some .boolean) :: wA) rm_X4_isBeats [.int x0] (f_X4_isBeats x0) := by
  refine ent_P (own := RX4) (ty := .boolean) (lv0 := [(0, .int x0)]) (by decide) rfl rfl (Nat.le_of_ble_eq_true rfl) rfl ?_
  intro X Q hl C hret
  exact w_X4_isBeats_0 C hret x0 rfl
set_option maxRecDepth 100000 in
theorem w_X4_beats_0 {X : XT} {E : EvT} {Z : Nat → Prop} {Q : State → Prop} {A : Nat → Nat} (C : Cx X (.code yX4_beats cX4_beats 4 (some .int)) cX4_beats 4 RX4 rm_X4_beats.frames rm_X4_beats.locals) (K : Ck X E Z) {r0 : Int32} {V0 : Nat → Nat → Int32} {L0 : Nat → Int64} (hret : RI X 4 cX4_beats (IF X E Z (cw E A)) Q .int r0 (V0, L0)) : ∀ (V : Nat → Nat → Int32) (L : Nat → Int64) (x1 : Int32) (x2 : Int32), f_X4_beats V L x1 x2 = some (r0, V0, L0) → Wm X 4 (IF X E Z (cw E A)) Q 0 [(0, .ref (A 0)), (1, .int x1), (2, .int x2)] [] (V, L) := by
  intro V L x1 x2 hf
  rw [f_X4_beats] at hf
  refine r_aload_n C dX4_beats_0 0 rfl rfl ?_
  refine g_RX4_19_0 C K dX4_beats_1 ?_
  refine r_iload_n C dX4_beats_4 1 rfl rfl ?_
  refine f_callI C K cal_RX4_94 ⟨rfl, rfl, Nat.le_of_ble_eq_true rfl, Nat.le_of_ble_eq_true rfl⟩ (t_X3_hasVerse _ x1) (cw_o5 E A _ _) rfl (cw_fst _ _ _ _ _ _) rfl (rest := []) rfl (Nat.le_of_ble_eq_true rfl) dX4_beats_5 ?_
  refine r_if_ne C (tgt := 14) dX4_beats_8 rfl hf (fun hf => ?_) (fun hf => ?_)
  · refine r_iload_n C dX4_beats_14 2 rfl rfl ?_
    refine r_callP C cas_RX4_129 ⟨rfl, rfl, Nat.le_of_ble_eq_true rfl, Nat.le_of_ble_eq_true rfl⟩ (t_X4_isBeats _ x2) rfl (rest := []) rfl (Nat.le_of_ble_eq_true rfl) dX4_beats_15 ?_
    refine r_if_ne C (tgt := 24) dX4_beats_18 rfl hf (fun hf => ?_) (fun hf => ?_)
    · refine r_aload_n C dX4_beats_24 0 rfl rfl ?_
      refine g_RX4_19_0 C K dX4_beats_25 ?_
      refine g_RX4_97_5 C K dX4_beats_28 ?_
      refine r_iload_n C dX4_beats_31 1 rfl rfl ?_
      refine s_iald C K (cw_a7 E A _ _) dX4_beats_32 hf (fun hf => ?_)
      refine r_istore_n C dX4_beats_33 rfl (Nat.le_of_ble_eq_true rfl) (lv2 := [(3, .int (V 7 x1.toNatClampNeg)), (0, .ref (A 0)), (1, .int x1), (2, .int x2)]) rfl ?_
      refine r_aload_n C dX4_beats_34 1 rfl rfl ?_
      refine g_RX4_19_0 C K dX4_beats_35 ?_
      refine g_RX4_97_5 C K dX4_beats_38 ?_
      refine r_iload_n C dX4_beats_41 2 rfl rfl ?_
      refine r_iload_n C dX4_beats_42 3 rfl rfl ?_
      refine s_iast C K (cw_a7 E A _ _) (fun z => cw_s7 E A _ _ _) dX4_beats_43 hf (fun V_1 hf => ?_)
      refine r_iload_n C dX4_beats_44 0 rfl rfl ?_
      exact ri_OW hret hf dX4_beats_45 rfl
    · refine r_bipush C dX4_beats_21 kb_m102 ?_
      exact ri_OW hret hf dX4_beats_23 rfl
  · refine r_bipush C dX4_beats_11 kb_m101 ?_
    exact ri_OW hret hf dX4_beats_13 rfl
theorem t_X4_beats (l : Launch) {E : EvT} {A : Nat → Nat} {V : Nat → Nat → Int32} {L : Nat → Int64} (x1 : Int32) (x2 : Int32) {r0 : Int32} {V0 : Nat → Nat → Int32} {L0 : Nat → Int64} (hq : f_X4_beats V L x1 x2 = some (r0, V0, L0)) : KI l yX4_beats (.code yX4_beats cX4_beats 4 (some .int) :: wA) rm_X4_beats E (cw E A V L) (cw E A V0 L0) [.ref (A 0), .int x1, .int x2] r0 := by
  refine ent_I (own := RX4) (ty := .int) (lv0 := [(0, .ref (A 0)), (1, .int x1), (2, .int x2)]) (by decide) rfl rfl (Nat.le_of_ble_eq_true rfl) rfl (cw_fst _ _ _ _ _ _) ?_
  intro X Z Q hl C K hret
  exact w_X4_beats_0 C K hret V L x1 x2 hq
set_option maxRecDepth 100000 in
theorem w_X4_be_0 {X : XT} {E : EvT} {Z : Nat → Prop} {Q : State → Prop} {A : Nat → Nat} (C : Cx X (.code yX4_be cX4_be 4 (some .int)) cX4_be 4 RX4 rm_X4_be.frames rm_X4_be.locals) (K : Ck X E Z) {r0 : Int32} {V0 : Nat → Nat → Int32} {L0 : Nat → Int64} (hret : RI X 4 cX4_be (IF X E Z (cw E A)) Q .int r0 (V0, L0)) : ∀ (V : Nat → Nat → Int32) (L : Nat → Int64) (x1 : Int32) (x2 : Int32), f_X4_be V L x1 x2 = some (r0, V0, L0) → Wm X 4 (IF X E Z (cw E A)) Q 0 [(0, .ref (A 0)), (1, .int x1), (2, .int x2)] [] (V, L) := by
  intro V L x1 x2 hf
  rw [f_X4_be] at hf
  refine r_aload_n C dX4_be_0 0 rfl rfl ?_
  refine g_RX4_19_0 C K dX4_be_1 ?_
  refine r_iload_n C dX4_be_4 1 rfl rfl ?_
  refine f_callI C K cal_RX4_69 ⟨rfl, rfl, Nat.le_of_ble_eq_true rfl, Nat.le_of_ble_eq_true rfl⟩ (t_X3_hasChild _ x1) (cw_o5 E A _ _) rfl (cw_fst _ _ _ _ _ _) rfl (rest := []) rfl (Nat.le_of_ble_eq_true rfl) dX4_be_5 ?_
  refine r_if_ne C (tgt := 14) dX4_be_8 rfl hf (fun hf => ?_) (fun hf => ?_)
  · refine r_iload_n C dX4_be_14 2 rfl rfl ?_
    refine r_callP C cas_RX4_91 ⟨rfl, rfl, Nat.le_of_ble_eq_true rfl, Nat.le_of_ble_eq_true rfl⟩ (t_X4_isKind _ x2) rfl (rest := []) rfl (Nat.le_of_ble_eq_true rfl) dX4_be_15 ?_
    refine r_if_ne C (tgt := 24) dX4_be_18 rfl hf (fun hf => ?_) (fun hf => ?_)
    · refine r_aload_n C dX4_be_24 0 rfl rfl ?_
      refine g_RX4_19_0 C K dX4_be_25 ?_
      refine g_RX4_62_5 C K dX4_be_28 ?_
      refine r_iload_n C dX4_be_31 1 rfl rfl ?_
      refine s_callIr C K jc6 cal_RX4_72 ⟨rfl, rfl, Nat.le_of_ble_eq_true rfl, Nat.le_of_ble_eq_true rfl⟩ (t_X0_kindOf _ jc6 x1) rfl (rest := []) rfl (Nat.le_of_ble_eq_true rfl) dX4_be_32 ?_
      refine r_istore_n C dX4_be_35 rfl (Nat.le_of_ble_eq_true rfl) (lv2 := [(3, .int (f_X0_kindOf (V 6) x1)), (0, .ref (A 0)), (1, .int x1), (2, .int x2)]) rfl ?_
      refine r_aload_n C dX4_be_36 1 rfl rfl ?_
      refine g_RX4_19_0 C K dX4_be_37 ?_
      refine g_RX4_62_5 C K dX4_be_40 ?_
      refine r_iload_n C dX4_be_43 2 rfl rfl ?_
      refine r_iload_n C dX4_be_44 3 rfl rfl ?_
      refine s_callV C K jc6 cal_RX4_132 ⟨rfl, rfl, Nat.le_of_ble_eq_true rfl, Nat.le_of_ble_eq_true rfl⟩ (t_X0_become _ jc6 x1 x2) rfl (rest := []) rfl (Nat.le_of_ble_eq_true rfl) dX4_be_45 ?_
      refine b_V hf (fun V_2 hf => ?_)
      refine r_iload_n C dX4_be_48 0 rfl rfl ?_
      exact ri_OW hret hf dX4_be_49 rfl
    · refine r_bipush C dX4_be_21 kb_m102 ?_
      exact ri_OW hret hf dX4_be_23 rfl
  · refine r_bipush C dX4_be_11 kb_m101 ?_
    exact ri_OW hret hf dX4_be_13 rfl
theorem t_X4_be (l : Launch) {E : EvT} {A : Nat → Nat} {V : Nat → Nat → Int32} {L : Nat → Int64} (x1 : Int32) (x2 : Int32) {r0 : Int32} {V0 : Nat → Nat → Int32} {L0 : Nat → Int64} (hq : f_X4_be V L x1 x2 = some (r0, V0, L0)) : KI l yX4_be (.code yX4_be cX4_be 4 (some .int) :: wA) rm_X4_be E (cw E A V L) (cw E A V0 L0) [.ref (A 0), .int x1, .int x2] r0 := by
  refine ent_I (own := RX4) (ty := .int) (lv0 := [(0, .ref (A 0)), (1, .int x1), (2, .int x2)]) (by decide) rfl rfl (Nat.le_of_ble_eq_true rfl) rfl (cw_fst _ _ _ _ _ _) ?_
  intro X Z Q hl C K hret
  exact w_X4_be_0 C K hret V L x1 x2 hq
set_option maxRecDepth 100000 in
theorem w_X4_last_0 {X : XT} {E : EvT} {Z : Nat → Prop} {Q : State → Prop} {A : Nat → Nat} (C : Cx X (.code yX4_last cX4_last 2 (some .int)) cX4_last 2 RX4 rm_X4_last.frames rm_X4_last.locals) (K : Ck X E Z) {r0 : Int32} {V0 : Nat → Nat → Int32} {L0 : Nat → Int64} (hret : RI X 2 cX4_last (IF X E Z (cw E A)) Q .int r0 (V0, L0)) : ∀ (V : Nat → Nat → Int32) (L : Nat → Int64) (x1 : Int32), f_X4_last V L x1 = some (r0, V0, L0) → Wm X 2 (IF X E Z (cw E A)) Q 0 [(0, .ref (A 0)), (1, .int x1)] [] (V, L) := by
  intro V L x1 hf
  rw [f_X4_last] at hf
  refine r_iload_n C dX4_last_0 1 rfl rfl ?_
  refine r_callP C cas_RX4_129 ⟨rfl, rfl, Nat.le_of_ble_eq_true rfl, Nat.le_of_ble_eq_true rfl⟩ (t_X4_isBeats _ x1) rfl (rest := []) rfl (Nat.le_of_ble_eq_true rfl) dX4_last_1 ?_
  refine r_if_ne C (tgt := 10) dX4_last_4 rfl hf (fun hf => ?_) (fun hf => ?_)
  · refine r_aload_n C dX4_last_10 0 rfl rfl ?_
    refine g_RX4_19_0 C K dX4_last_11 ?_
    refine f_callI C K cal_RX4_123 ⟨rfl, rfl, Nat.le_of_ble_eq_true rfl, Nat.le_of_ble_eq_true rfl⟩ (t_X3_hasRing _) (cw_o5 E A _ _) rfl (cw_fst _ _ _ _ _ _) rfl (rest := []) rfl (Nat.le_of_ble_eq_true rfl) dX4_last_14 ?_
    refine r_if_eq C (tgt := 31) dX4_last_17 rfl hf (fun hf => ?_) (fun hf => ?_)
    · refine r_bipush C dX4_last_31 kb_m103 ?_
      exact ri_OW hret hf dX4_last_33 rfl
    · refine r_aload_n C dX4_last_20 0 rfl rfl ?_
      refine g_RX4_31_0 C K dX4_last_21 ?_
      refine r_iload_n C dX4_last_24 1 rfl rfl ?_
      refine bd3_e hf (fun r_1 V_2 L_3 hq hf => ?_)
      refine f_callI C K cal_RX4_105 ⟨rfl, rfl, Nat.le_of_ble_eq_true rfl, Nat.le_of_ble_eq_true rfl⟩ (t_X1_leftBy _ x1 hq) (cw_o15 E A _ _) rfl (cw_fst _ _ _ _ _ _) rfl (rest := []) rfl (Nat.le_of_ble_eq_true rfl) dX4_last_25 ?_
      refine r_goto C (tgt := 33) dX4_last_28 rfl ?_
      exact ri_OW hret hf dX4_last_33 rfl
  · refine r_bipush C dX4_last_7 kb_m102 ?_
    exact ri_OW hret hf dX4_last_9 rfl
theorem t_X4_last (l : Launch) {E : EvT} {A : Nat → Nat} {V : Nat → Nat → Int32} {L : Nat → Int64} (x1 : Int32) {r0 : Int32} {V0 : Nat → Nat → Int32} {L0 : Nat → Int64} (hq : f_X4_last V L x1 = some (r0, V0, L0)) : KI l yX4_last (.code yX4_last cX4_last 2 (some .int) :: wA) rm_X4_last E (cw E A V L) (cw E A V0 L0) [.ref (A 0), .int x1] r0 := by
  refine ent_I (own := RX4) (ty := .int) (lv0 := [(0, .ref (A 0)), (1, .int x1)]) (by decide) rfl rfl (Nat.le_of_ble_eq_true rfl) rfl (cw_fst _ _ _ _ _ _) ?_
  intro X Z Q hl C K hret
  exact w_X4_last_0 C K hret V L x1 hq
set_option maxRecDepth 100000 in
theorem w_X4_begin_0 {X : XT} {E : EvT} {Z : Nat → Prop} {Q : State → Prop} {A : Nat → Nat} (C : Cx X (.code yX4_begin cX4_begin 3 (some .int)) cX4_begin 3 RX4 rm_X4_begin.frames rm_X4_begin.locals) (K : Ck X E Z) {r0 : Int32} {V0 : Nat → Nat → Int32} {L0 : Nat → Int64} (hret : RI X 3 cX4_begin (IF X E Z (cw E A)) Q .int r0 (V0, L0)) : ∀ (V : Nat → Nat → Int32) (L : Nat → Int64) (x1 : Int32) (x2 : Int32), f_X4_begin V L x1 x2 = some (r0, V0, L0) → Wm X 3 (IF X E Z (cw E A)) Q 0 [(0, .ref (A 0)), (1, .int x1), (2, .int x2)] [] (V, L) := by
  intro V L x1 x2 hf
  rw [f_X4_begin] at hf
  refine r_aload_n C dX4_begin_0 0 rfl rfl ?_
  refine g_RX4_19_0 C K dX4_begin_1 ?_
  refine r_iload_n C dX4_begin_4 1 rfl rfl ?_
  refine f_callI C K cal_RX4_69 ⟨rfl, rfl, Nat.le_of_ble_eq_true rfl, Nat.le_of_ble_eq_true rfl⟩ (t_X3_hasChild _ x1) (cw_o5 E A _ _) rfl (cw_fst _ _ _ _ _ _) rfl (rest := []) rfl (Nat.le_of_ble_eq_true rfl) dX4_begin_5 ?_
  refine r_if_ne C (tgt := 14) dX4_begin_8 rfl hf (fun hf => ?_) (fun hf => ?_)
  · refine r_iload_n C dX4_begin_14 2 rfl rfl ?_
    refine r_callP C cas_RX4_129 ⟨rfl, rfl, Nat.le_of_ble_eq_true rfl, Nat.le_of_ble_eq_true rfl⟩ (t_X4_isBeats _ x2) rfl (rest := []) rfl (Nat.le_of_ble_eq_true rfl) dX4_begin_15 ?_
    refine r_if_eq C (tgt := 33) dX4_begin_18 rfl hf (fun hf => ?_) (fun hf => ?_)
    · refine r_bipush C dX4_begin_33 kb_m102 ?_
      exact ri_OW hret hf dX4_begin_35 rfl
    · refine r_aload_n C dX4_begin_21 0 rfl rfl ?_
      refine g_RX4_31_0 C K dX4_begin_22 ?_
      refine r_iload_n C dX4_begin_25 1 rfl rfl ?_
      refine r_iload_n C dX4_begin_26 2 rfl rfl ?_
      refine bd3_e hf (fun r_1 V_2 L_3 hq hf => ?_)
      refine f_callI C K cal_RX4_136 ⟨rfl, rfl, Nat.le_of_ble_eq_true rfl, Nat.le_of_ble_eq_true rfl⟩ (t_X1_startsFor _ x1 x2 hq) (cw_o15 E A _ _) rfl (cw_fst _ _ _ _ _ _) rfl (rest := []) rfl (Nat.le_of_ble_eq_true rfl) dX4_begin_27 ?_
      refine r_goto C (tgt := 35) dX4_begin_30 rfl ?_
      exact ri_OW hret hf dX4_begin_35 rfl
  · refine r_bipush C dX4_begin_11 kb_m101 ?_
    exact ri_OW hret hf dX4_begin_13 rfl
theorem t_X4_begin (l : Launch) {E : EvT} {A : Nat → Nat} {V : Nat → Nat → Int32} {L : Nat → Int64} (x1 : Int32) (x2 : Int32) {r0 : Int32} {V0 : Nat → Nat → Int32} {L0 : Nat → Int64} (hq : f_X4_begin V L x1 x2 = some (r0, V0, L0)) : KI l yX4_begin (.code yX4_begin cX4_begin 3 (some .int) :: wA) rm_X4_begin E (cw E A V L) (cw E A V0 L0) [.ref (A 0), .int x1, .int x2] r0 := by
  refine ent_I (own := RX4) (ty := .int) (lv0 := [(0, .ref (A 0)), (1, .int x1), (2, .int x2)]) (by decide) rfl rfl (Nat.le_of_ble_eq_true rfl) rfl (cw_fst _ _ _ _ _ _) ?_
  intro X Z Q hl C K hret
  exact w_X4_begin_0 C K hret V L x1 x2 hq
set_option maxRecDepth 100000 in
theorem w_X4_stand_0 {X : XT} {E : EvT} {Z : Nat → Prop} {Q : State → Prop} {A : Nat → Nat} (C : Cx X (.code yX4_stand cX4_stand 3 (some .int)) cX4_stand 3 RX4 rm_X4_stand.frames rm_X4_stand.locals) (K : Ck X E Z) {r0 : Int32} {V0 : Nat → Nat → Int32} {L0 : Nat → Int64} (hret : RI X 3 cX4_stand (IF X E Z (cw E A)) Q .int r0 (V0, L0)) : ∀ (V : Nat → Nat → Int32) (L : Nat → Int64) (x1 : Int32) (x2 : Int32), f_X4_stand V L x1 x2 = some (r0, V0, L0) → Wm X 3 (IF X E Z (cw E A)) Q 0 [(0, .ref (A 0)), (1, .int x1), (2, .int x2)] [] (V, L) := by
  intro V L x1 x2 hf
  rw [f_X4_stand] at hf
  refine r_iload_n C dX4_stand_0 1 rfl rfl ?_
  refine r_callP C cas_RX4_91 ⟨rfl, rfl, Nat.le_of_ble_eq_true rfl, Nat.le_of_ble_eq_true rfl⟩ (t_X4_isKind _ x1) rfl (rest := []) rfl (Nat.le_of_ble_eq_true rfl) dX4_stand_1 ?_
  refine r_if_eq C (tgt := 14) dX4_stand_4 rfl hf (fun hf => ?_) (fun hf => ?_)
  · refine r_bipush C dX4_stand_14 kb_m102 ?_
    exact ri_OW hret hf dX4_stand_16 rfl
  · refine r_iload_n C dX4_stand_7 2 rfl rfl ?_
    refine r_callP C cas_RX4_129 ⟨rfl, rfl, Nat.le_of_ble_eq_true rfl, Nat.le_of_ble_eq_true rfl⟩ (t_X4_isBeats _ x2) rfl (rest := []) rfl (Nat.le_of_ble_eq_true rfl) dX4_stand_8 ?_
    refine r_if_ne C (tgt := 17) dX4_stand_11 rfl hf (fun hf => ?_) (fun hf => ?_)
    · refine r_aload_n C dX4_stand_17 0 rfl rfl ?_
      refine g_RX4_19_0 C K dX4_stand_18 ?_
      refine f_callI C K cal_RX4_123 ⟨rfl, rfl, Nat.le_of_ble_eq_true rfl, Nat.le_of_ble_eq_true rfl⟩ (t_X3_hasRing _) (cw_o5 E A _ _) rfl (cw_fst _ _ _ _ _ _) rfl (rest := []) rfl (Nat.le_of_ble_eq_true rfl) dX4_stand_21 ?_
      refine r_if_eq C (tgt := 39) dX4_stand_24 rfl hf (fun hf => ?_) (fun hf => ?_)
      · refine r_bipush C dX4_stand_39 kb_m103 ?_
        exact ri_OW hret hf dX4_stand_41 rfl
      · refine r_aload_n C dX4_stand_27 0 rfl rfl ?_
        refine g_RX4_31_0 C K dX4_stand_28 ?_
        refine r_iload_n C dX4_stand_31 1 rfl rfl ?_
        refine r_iload_n C dX4_stand_32 2 rfl rfl ?_
        refine bd3_e hf (fun r_1 V_2 L_3 hq hf => ?_)
        refine f_callI C K cal_RX4_139 ⟨rfl, rfl, Nat.le_of_ble_eq_true rfl, Nat.le_of_ble_eq_true rfl⟩ (t_X1_placesFor _ x1 x2 hq) (cw_o15 E A _ _) rfl (cw_fst _ _ _ _ _ _) rfl (rest := []) rfl (Nat.le_of_ble_eq_true rfl) dX4_stand_33 ?_
        refine r_goto C (tgt := 41) dX4_stand_36 rfl ?_
        exact ri_OW hret hf dX4_stand_41 rfl
    · refine r_bipush C dX4_stand_14 kb_m102 ?_
      exact ri_OW hret hf dX4_stand_16 rfl
theorem t_X4_stand (l : Launch) {E : EvT} {A : Nat → Nat} {V : Nat → Nat → Int32} {L : Nat → Int64} (x1 : Int32) (x2 : Int32) {r0 : Int32} {V0 : Nat → Nat → Int32} {L0 : Nat → Int64} (hq : f_X4_stand V L x1 x2 = some (r0, V0, L0)) : KI l yX4_stand (.code yX4_stand cX4_stand 3 (some .int) :: wA) rm_X4_stand E (cw E A V L) (cw E A V0 L0) [.ref (A 0), .int x1, .int x2] r0 := by
  refine ent_I (own := RX4) (ty := .int) (lv0 := [(0, .ref (A 0)), (1, .int x1), (2, .int x2)]) (by decide) rfl rfl (Nat.le_of_ble_eq_true rfl) rfl (cw_fst _ _ _ _ _ _) ?_
  intro X Z Q hl C K hret
  exact w_X4_stand_0 C K hret V L x1 x2 hq
set_option maxRecDepth 100000 in
theorem w_X4_game_0 {X : XT} {E : EvT} {Z : Nat → Prop} {Q : State → Prop} {A : Nat → Nat} (C : Cx X (.code yX4_game cX4_game 4 (some .int)) cX4_game 4 RX4 rm_X4_game.frames rm_X4_game.locals) (K : Ck X E Z) {r0 : Int32} {V0 : Nat → Nat → Int32} {L0 : Nat → Int64} (hret : RI X 4 cX4_game (IF X E Z (cw E A)) Q .int r0 (V0, L0)) : ∀ (V : Nat → Nat → Int32) (L : Nat → Int64) (x1 : Int32) (x2 : Int32) (x3 : Int32), f_X4_game V L x1 x2 x3 = some (r0, V0, L0) → Wm X 4 (IF X E Z (cw E A)) Q 0 [(0, .ref (A 0)), (1, .int x1), (2, .int x2), (3, .int x3)] [] (V, L) := by
  intro V L x1 x2 x3 hf
  rw [f_X4_game] at hf
  refine r_aload_n C dX4_game_0 0 rfl rfl ?_
  refine g_RX4_19_0 C K dX4_game_1 ?_
  refine r_iload_n C dX4_game_4 1 rfl rfl ?_
  refine f_callI C K cal_RX4_69 ⟨rfl, rfl, Nat.le_of_ble_eq_true rfl, Nat.le_of_ble_eq_true rfl⟩ (t_X3_hasChild _ x1) (cw_o5 E A _ _) rfl (cw_fst _ _ _ _ _ _) rfl (rest := []) rfl (Nat.le_of_ble_eq_true rfl) dX4_game_5 ?_
  refine r_if_eq C (tgt := 27) dX4_game_8 rfl hf (fun hf => ?_) (fun hf => ?_)
  · refine r_bipush C dX4_game_27 kb_m101 ?_
    exact ri_OW hret hf dX4_game_29 rfl
  · refine r_aload_n C dX4_game_11 0 rfl rfl ?_
    refine g_RX4_19_0 C K dX4_game_12 ?_
    refine r_iload_n C dX4_game_15 2 rfl rfl ?_
    refine f_callI C K cal_RX4_69 ⟨rfl, rfl, Nat.le_of_ble_eq_true rfl, Nat.le_of_ble_eq_true rfl⟩ (t_X3_hasChild _ x2) (cw_o5 E A _ _) rfl (cw_fst _ _ _ _ _ _) rfl (rest := []) rfl (Nat.le_of_ble_eq_true rfl) dX4_game_16 ?_
    refine r_if_eq C (tgt := 27) dX4_game_19 rfl hf (fun hf => ?_) (fun hf => ?_)
    · refine r_bipush C dX4_game_27 kb_m101 ?_
      exact ri_OW hret hf dX4_game_29 rfl
    · refine r_iload_n C dX4_game_22 1 rfl rfl ?_
      refine r_iload_n C dX4_game_23 2 rfl rfl ?_
      refine r_icmp_ne C (tgt := 30) dX4_game_24 rfl hf (fun hf => ?_) (fun hf => ?_)
      · refine r_iload_n C dX4_game_30 3 rfl rfl ?_
        refine r_if_lt C (tgt := 39) dX4_game_31 rfl hf (fun hf => ?_) (fun hf => ?_)
        · refine r_bipush C dX4_game_39 kb_m102 ?_
          exact ri_OW hret hf dX4_game_41 rfl
        · refine r_iload_n C dX4_game_34 3 rfl rfl ?_
          refine r_iconst C dX4_game_35 ki_1 ?_
          refine r_icmp_le C (tgt := 42) dX4_game_36 rfl hf (fun hf => ?_) (fun hf => ?_)
          · refine r_aload_n C dX4_game_42 0 rfl rfl ?_
            refine g_RX4_19_0 C K dX4_game_43 ?_
            refine g_RX4_62_5 C K dX4_game_46 ?_
            refine r_iload_n C dX4_game_49 1 rfl rfl ?_
            refine s_callIr C K jc6 cal_RX4_76 ⟨rfl, rfl, Nat.le_of_ble_eq_true rfl, Nat.le_of_ble_eq_true rfl⟩ (t_X0_isIn _ jc6 x1) rfl (rest := []) rfl (Nat.le_of_ble_eq_true rfl) dX4_game_50 ?_
            refine r_if_eq C (tgt := 70) dX4_game_53 rfl hf (fun hf => ?_) (fun hf => ?_)
            · refine r_bipush C dX4_game_70 kb_m103 ?_
              exact ri_OW hret hf dX4_game_72 rfl
            · refine r_aload_n C dX4_game_56 0 rfl rfl ?_
              refine g_RX4_19_0 C K dX4_game_57 ?_
              refine g_RX4_62_5 C K dX4_game_60 ?_
              refine r_iload_n C dX4_game_63 2 rfl rfl ?_
              refine s_callIr C K jc6 cal_RX4_76 ⟨rfl, rfl, Nat.le_of_ble_eq_true rfl, Nat.le_of_ble_eq_true rfl⟩ (t_X0_isIn _ jc6 x2) rfl (rest := []) rfl (Nat.le_of_ble_eq_true rfl) dX4_game_64 ?_
              refine r_if_ne C (tgt := 73) dX4_game_67 rfl hf (fun hf => ?_) (fun hf => ?_)
              · refine r_iload_n C dX4_game_73 3 rfl rfl ?_
                refine r_if_ne C (tgt := 89) dX4_game_74 rfl hf (fun hf => ?_) (fun hf => ?_)
                · refine r_aload_n C dX4_game_89 0 rfl rfl ?_
                  refine g_RX4_31_0 C K dX4_game_90 ?_
                  refine r_iload_n C dX4_game_93 1 rfl rfl ?_
                  refine r_iload_n C dX4_game_94 2 rfl rfl ?_
                  refine bd3_e hf (fun r_1 V_2 L_3 hq hf => ?_)
                  refine f_callI C K cal_RX4_145 ⟨rfl, rfl, Nat.le_of_ble_eq_true rfl, Nat.le_of_ble_eq_true rfl⟩ (t_X1_verseFor _ x1 x2 hq) (cw_o15 E A _ _) rfl (cw_fst _ _ _ _ _ _) rfl (rest := []) rfl (Nat.le_of_ble_eq_true rfl) dX4_game_95 ?_
                  exact ri_OW hret hf dX4_game_98 rfl
                · refine r_aload_n C dX4_game_77 0 rfl rfl ?_
                  refine g_RX4_31_0 C K dX4_game_78 ?_
                  refine r_iload_n C dX4_game_81 1 rfl rfl ?_
                  refine r_iload_n C dX4_game_82 2 rfl rfl ?_
                  refine bd3_e hf (fun r_4 V_5 L_6 hq hf => ?_)
                  refine f_callI C K cal_RX4_142 ⟨rfl, rfl, Nat.le_of_ble_eq_true rfl, Nat.le_of_ble_eq_true rfl⟩ (t_X1_bestFor _ x1 x2 hq) (cw_o15 E A _ _) rfl (cw_fst _ _ _ _ _ _) rfl (rest := []) rfl (Nat.le_of_ble_eq_true rfl) dX4_game_83 ?_
                  refine r_goto C (tgt := 98) dX4_game_86 rfl ?_
                  exact ri_OW hret hf dX4_game_98 rfl
              · refine r_bipush C dX4_game_70 kb_m103 ?_
                exact ri_OW hret hf dX4_game_72 rfl
          · refine r_bipush C dX4_game_39 kb_m102 ?_
            exact ri_OW hret hf dX4_game_41 rfl
      · refine r_bipush C dX4_game_27 kb_m101 ?_
        exact ri_OW hret hf dX4_game_29 rfl
theorem t_X4_game (l : Launch) {E : EvT} {A : Nat → Nat} {V : Nat → Nat → Int32} {L : Nat → Int64} (x1 : Int32) (x2 : Int32) (x3 : Int32) {r0 : Int32} {V0 : Nat → Nat → Int32} {L0 : Nat → Int64} (hq : f_X4_game V L x1 x2 x3 = some (r0, V0, L0)) : KI l yX4_game (.code yX4_game cX4_game 4 (some .int) :: wA) rm_X4_game E (cw E A V L) (cw E A V0 L0) [.ref (A 0), .int x1, .int x2, .int x3] r0 := by
  refine ent_I (own := RX4) (ty := .int) (lv0 := [(0, .ref (A 0)), (1, .int x1), (2, .int x2), (3, .int x3)]) (by decide) rfl rfl (Nat.le_of_ble_eq_true rfl) rfl (cw_fst _ _ _ _ _ _) ?_
  intro X Z Q hl C K hret
  exact w_X4_game_0 C K hret V L x1 x2 x3 hq
set_option maxRecDepth 100000 in
theorem w_X4_likely_0 {X : XT} {E : EvT} {Z : Nat → Prop} {Q : State → Prop} {A : Nat → Nat} (C : Cx X (.code yX4_likely cX4_likely 3 (some .int)) cX4_likely 3 RX4 rm_X4_likely.frames rm_X4_likely.locals) (K : Ck X E Z) {r0 : Int32} {V0 : Nat → Nat → Int32} {L0 : Nat → Int64} (hret : RI X 3 cX4_likely (IF X E Z (cw E A)) Q .int r0 (V0, L0)) : ∀ (V : Nat → Nat → Int32) (L : Nat → Int64) (x1 : Int32) (x2 : Int32), f_X4_likely V L x1 x2 = some (r0, V0, L0) → Wm X 3 (IF X E Z (cw E A)) Q 0 [(0, .ref (A 0)), (1, .int x1), (2, .int x2)] [] (V, L) := by
  intro V L x1 x2 hf
  rw [f_X4_likely] at hf
  refine r_aload_n C dX4_likely_0 0 rfl rfl ?_
  refine g_RX4_19_0 C K dX4_likely_1 ?_
  refine r_iload_n C dX4_likely_4 1 rfl rfl ?_
  refine f_callI C K cal_RX4_69 ⟨rfl, rfl, Nat.le_of_ble_eq_true rfl, Nat.le_of_ble_eq_true rfl⟩ (t_X3_hasChild _ x1) (cw_o5 E A _ _) rfl (cw_fst _ _ _ _ _ _) rfl (rest := []) rfl (Nat.le_of_ble_eq_true rfl) dX4_likely_5 ?_
  refine r_if_ne C (tgt := 14) dX4_likely_8 rfl hf (fun hf => ?_) (fun hf => ?_)
  · refine r_iload_n C dX4_likely_14 2 rfl rfl ?_
    refine r_if_lt C (tgt := 23) dX4_likely_15 rfl hf (fun hf => ?_) (fun hf => ?_)
    · refine r_bipush C dX4_likely_23 kb_m102 ?_
      exact ri_OW hret hf dX4_likely_25 rfl
    · refine r_iload_n C dX4_likely_18 2 rfl rfl ?_
      refine r_iconst C dX4_likely_19 ki_1 ?_
      refine r_icmp_le C (tgt := 26) dX4_likely_20 rfl hf (fun hf => ?_) (fun hf => ?_)
      · refine r_aload_n C dX4_likely_26 0 rfl rfl ?_
        refine g_RX4_19_0 C K dX4_likely_27 ?_
        refine g_RX4_62_5 C K dX4_likely_30 ?_
        refine r_iload_n C dX4_likely_33 1 rfl rfl ?_
        refine s_callIr C K jc6 cal_RX4_76 ⟨rfl, rfl, Nat.le_of_ble_eq_true rfl, Nat.le_of_ble_eq_true rfl⟩ (t_X0_isIn _ jc6 x1) rfl (rest := []) rfl (Nat.le_of_ble_eq_true rfl) dX4_likely_34 ?_
        refine r_if_ne C (tgt := 43) dX4_likely_37 rfl hf (fun hf => ?_) (fun hf => ?_)
        · refine r_aload_n C dX4_likely_43 0 rfl rfl ?_
          refine g_RX4_31_0 C K dX4_likely_44 ?_
          refine r_iload_n C dX4_likely_47 1 rfl rfl ?_
          refine r_iload_n C dX4_likely_48 2 rfl rfl ?_
          refine r_if_ne C (tgt := 56) dX4_likely_49 rfl hf (fun hf => ?_) (fun hf => ?_)
          · refine r_iconst C dX4_likely_56 ki_0 ?_
            refine bd3_e hf (fun r_1 V_2 L_3 hq hf => ?_)
            refine f_callI C K cal_RX4_148 ⟨rfl, rfl, Nat.le_of_ble_eq_true rfl, Nat.le_of_ble_eq_true rfl⟩ (t_X1_chanceOf _ x1 (0 : Int32) hq) (cw_o15 E A _ _) rfl (cw_fst _ _ _ _ _ _) rfl (rest := []) rfl (Nat.le_of_ble_eq_true rfl) dX4_likely_57 ?_
            exact ri_OW hret hf dX4_likely_60 rfl
          · refine r_iconst C dX4_likely_52 ki_1 ?_
            refine r_goto C (tgt := 57) dX4_likely_53 rfl ?_
            refine bd3_e hf (fun r_4 V_5 L_6 hq hf => ?_)
            refine f_callI C K cal_RX4_148 ⟨rfl, rfl, Nat.le_of_ble_eq_true rfl, Nat.le_of_ble_eq_true rfl⟩ (t_X1_chanceOf _ x1 (1 : Int32) hq) (cw_o15 E A _ _) rfl (cw_fst _ _ _ _ _ _) rfl (rest := []) rfl (Nat.le_of_ble_eq_true rfl) dX4_likely_57 ?_
            exact ri_OW hret hf dX4_likely_60 rfl
        · refine r_bipush C dX4_likely_40 kb_m103 ?_
          exact ri_OW hret hf dX4_likely_42 rfl
      · refine r_bipush C dX4_likely_23 kb_m102 ?_
        exact ri_OW hret hf dX4_likely_25 rfl
  · refine r_bipush C dX4_likely_11 kb_m101 ?_
    exact ri_OW hret hf dX4_likely_13 rfl
theorem t_X4_likely (l : Launch) {E : EvT} {A : Nat → Nat} {V : Nat → Nat → Int32} {L : Nat → Int64} (x1 : Int32) (x2 : Int32) {r0 : Int32} {V0 : Nat → Nat → Int32} {L0 : Nat → Int64} (hq : f_X4_likely V L x1 x2 = some (r0, V0, L0)) : KI l yX4_likely (.code yX4_likely cX4_likely 3 (some .int) :: wA) rm_X4_likely E (cw E A V L) (cw E A V0 L0) [.ref (A 0), .int x1, .int x2] r0 := by
  refine ent_I (own := RX4) (ty := .int) (lv0 := [(0, .ref (A 0)), (1, .int x1), (2, .int x2)]) (by decide) rfl rfl (Nat.le_of_ble_eq_true rfl) rfl (cw_fst _ _ _ _ _ _) ?_
  intro X Z Q hl C K hret
  exact w_X4_likely_0 C K hret V L x1 x2 hq
set_option maxRecDepth 100000 in
theorem w_X4_see_0 {X : XT} {E : EvT} {Z : Nat → Prop} {Q : State → Prop} {A : Nat → Nat} (C : Cx X (.code yX4_see cX4_see 3 (some .int)) cX4_see 3 RX4 rm_X4_see.frames rm_X4_see.locals) (K : Ck X E Z) {r0 : Int32} {V0 : Nat → Nat → Int32} {L0 : Nat → Int64} (hret : RI X 3 cX4_see (IF X E Z (cw E A)) Q .int r0 (V0, L0)) : ∀ (V : Nat → Nat → Int32) (L : Nat → Int64) (x1 : Int32) (x2 : Int32), f_X4_see V L x1 x2 = some (r0, V0, L0) → Wm X 3 (IF X E Z (cw E A)) Q 0 [(0, .ref (A 0)), (1, .int x1), (2, .int x2)] [] (V, L) := by
  intro V L x1 x2 hf
  rw [f_X4_see] at hf
  refine r_aload_n C dX4_see_0 0 rfl rfl ?_
  refine g_RX4_19_0 C K dX4_see_1 ?_
  refine r_iload_n C dX4_see_4 1 rfl rfl ?_
  refine f_callI C K cal_RX4_69 ⟨rfl, rfl, Nat.le_of_ble_eq_true rfl, Nat.le_of_ble_eq_true rfl⟩ (t_X3_hasChild _ x1) (cw_o5 E A _ _) rfl (cw_fst _ _ _ _ _ _) rfl (rest := []) rfl (Nat.le_of_ble_eq_true rfl) dX4_see_5 ?_
  refine r_if_eq C (tgt := 22) dX4_see_8 rfl hf (fun hf => ?_) (fun hf => ?_)
  · refine r_bipush C dX4_see_22 kb_m101 ?_
    exact ri_OW hret hf dX4_see_24 rfl
  · refine r_aload_n C dX4_see_11 0 rfl rfl ?_
    refine g_RX4_19_0 C K dX4_see_12 ?_
    refine r_iload_n C dX4_see_15 2 rfl rfl ?_
    refine f_callI C K cal_RX4_69 ⟨rfl, rfl, Nat.le_of_ble_eq_true rfl, Nat.le_of_ble_eq_true rfl⟩ (t_X3_hasChild _ x2) (cw_o5 E A _ _) rfl (cw_fst _ _ _ _ _ _) rfl (rest := []) rfl (Nat.le_of_ble_eq_true rfl) dX4_see_16 ?_
    refine r_if_ne C (tgt := 25) dX4_see_19 rfl hf (fun hf => ?_) (fun hf => ?_)
    · refine r_aload_n C dX4_see_25 0 rfl rfl ?_
      refine g_RX4_19_0 C K dX4_see_26 ?_
      refine r_iload_n C dX4_see_29 1 rfl rfl ?_
      refine r_iload_n C dX4_see_30 2 rfl rfl ?_
      refine bd3_e hf (fun r_1 V_2 L_3 hq hf => ?_)
      refine f_callI C K cal_RX4_152 ⟨rfl, rfl, Nat.le_of_ble_eq_true rfl, Nat.le_of_ble_eq_true rfl⟩ (t_X3_keepSeen _ x1 x2 hq) (cw_o5 E A _ _) rfl (cw_fst _ _ _ _ _ _) rfl (rest := []) rfl (Nat.le_of_ble_eq_true rfl) dX4_see_31 ?_
      refine r_if_eq C (tgt := 47) dX4_see_34 rfl hf (fun hf => ?_) (fun hf => ?_)
      · refine r_bipush C dX4_see_47 kb_m104 ?_
        exact ri_OW hret hf dX4_see_49 rfl
      · refine r_aload_n C dX4_see_37 0 rfl rfl ?_
        refine g_RX4_19_0 C K dX4_see_38 ?_
        refine g_RX4_156_5 C K dX4_see_41 ?_
        refine r_goto C (tgt := 49) dX4_see_44 rfl ?_
        exact ri_OW hret hf dX4_see_49 rfl
    · refine r_bipush C dX4_see_22 kb_m101 ?_
      exact ri_OW hret hf dX4_see_24 rfl
theorem t_X4_see (l : Launch) {E : EvT} {A : Nat → Nat} {V : Nat → Nat → Int32} {L : Nat → Int64} (x1 : Int32) (x2 : Int32) {r0 : Int32} {V0 : Nat → Nat → Int32} {L0 : Nat → Int64} (hq : f_X4_see V L x1 x2 = some (r0, V0, L0)) : KI l yX4_see (.code yX4_see cX4_see 3 (some .int) :: wA) rm_X4_see E (cw E A V L) (cw E A V0 L0) [.ref (A 0), .int x1, .int x2] r0 := by
  refine ent_I (own := RX4) (ty := .int) (lv0 := [(0, .ref (A 0)), (1, .int x1), (2, .int x2)]) (by decide) rfl rfl (Nat.le_of_ble_eq_true rfl) rfl (cw_fst _ _ _ _ _ _) ?_
  intro X Z Q hl C K hret
  exact w_X4_see_0 C K hret V L x1 x2 hq
set_option maxRecDepth 100000 in
theorem w_X4_forget_0 {X : XT} {E : EvT} {Z : Nat → Prop} {Q : State → Prop} {A : Nat → Nat} (C : Cx X (.code yX4_forget cX4_forget 2 (some .int)) cX4_forget 2 RX4 rm_X4_forget.frames rm_X4_forget.locals) (K : Ck X E Z) {r0 : Int32} {V0 : Nat → Nat → Int32} {L0 : Nat → Int64} (hret : RI X 2 cX4_forget (IF X E Z (cw E A)) Q .int r0 (V0, L0)) : ∀ (V : Nat → Nat → Int32) (L : Nat → Int64), f_X4_forget V L = some (r0, V0, L0) → Wm X 2 (IF X E Z (cw E A)) Q 0 [(0, .ref (A 0))] [] (V, L) := by
  intro V L hf
  rw [f_X4_forget] at hf
  refine r_aload_n C dX4_forget_0 0 rfl rfl ?_
  refine g_RX4_19_0 C K dX4_forget_1 ?_
  refine g_RX4_156_5 C K dX4_forget_4 ?_
  refine r_istore_n C dX4_forget_7 rfl (Nat.le_of_ble_eq_true rfl) (lv2 := [(1, .int (V 5 6)), (0, .ref (A 0))]) rfl ?_
  refine r_aload_n C dX4_forget_8 1 rfl rfl ?_
  refine g_RX4_19_0 C K dX4_forget_9 ?_
  refine r_iconst C dX4_forget_12 ki_0 ?_
  refine p_RX4_156_5 C K dX4_forget_13 hf (fun V_1 hf => ?_)
  refine r_iload_n C dX4_forget_16 0 rfl rfl ?_
  exact ri_OW hret hf dX4_forget_17 rfl
theorem t_X4_forget (l : Launch) {E : EvT} {A : Nat → Nat} {V : Nat → Nat → Int32} {L : Nat → Int64} {r0 : Int32} {V0 : Nat → Nat → Int32} {L0 : Nat → Int64} (hq : f_X4_forget V L = some (r0, V0, L0)) : KI l yX4_forget (.code yX4_forget cX4_forget 2 (some .int) :: wA) rm_X4_forget E (cw E A V L) (cw E A V0 L0) [.ref (A 0)] r0 := by
  refine ent_I (own := RX4) (ty := .int) (lv0 := [(0, .ref (A 0))]) (by decide) rfl rfl (Nat.le_of_ble_eq_true rfl) rfl (cw_fst _ _ _ _ _ _) ?_
  intro X Z Q hl C K hret
  exact w_X4_forget_0 C K hret V L  hq
set_option maxRecDepth 100000 in
theorem w_X4_lengths_0 {X : XT} {E : EvT} {Z : Nat → Prop} {Q : State → Prop} {A : Nat → Nat} (C : Cx X (.code yX4_lengths cX4_lengths 1 (some .int)) cX4_lengths 1 RX4 rm_X4_lengths.frames rm_X4_lengths.locals) (K : Ck X E Z) {r0 : Int32} {V0 : Nat → Nat → Int32} {L0 : Nat → Int64} (hret : RI X 1 cX4_lengths (IF X E Z (cw E A)) Q .int r0 (V0, L0)) : ∀ (V : Nat → Nat → Int32) (L : Nat → Int64), f_X4_lengths V L = some (r0, V0, L0) → Wm X 1 (IF X E Z (cw E A)) Q 0 [(0, .ref (A 0))] [] (V, L) := by
  intro V L hf
  rw [f_X4_lengths] at hf
  refine r_aload_n C dX4_lengths_0 0 rfl rfl ?_
  refine g_RX4_19_0 C K dX4_lengths_1 ?_
  refine f_callI C K cal_RX4_123 ⟨rfl, rfl, Nat.le_of_ble_eq_true rfl, Nat.le_of_ble_eq_true rfl⟩ (t_X3_hasRing _) (cw_o5 E A _ _) rfl (cw_fst _ _ _ _ _ _) rfl (rest := []) rfl (Nat.le_of_ble_eq_true rfl) dX4_lengths_4 ?_
  refine r_if_eq C (tgt := 20) dX4_lengths_7 rfl hf (fun hf => ?_) (fun hf => ?_)
  · refine r_bipush C dX4_lengths_20 kb_m103 ?_
    exact ri_OW hret hf dX4_lengths_22 rfl
  · refine r_aload_n C dX4_lengths_10 0 rfl rfl ?_
    refine g_RX4_31_0 C K dX4_lengths_11 ?_
    refine bd3_e hf (fun r_1 V_2 L_3 hq hf => ?_)
    refine f_callI C K cal_RX4_159 ⟨rfl, rfl, Nat.le_of_ble_eq_true rfl, Nat.le_of_ble_eq_true rfl⟩ (t_X1_lengthBits _ hq) (cw_o15 E A _ _) rfl (cw_fst _ _ _ _ _ _) rfl (rest := []) rfl (Nat.le_of_ble_eq_true rfl) dX4_lengths_14 ?_
    refine r_goto C (tgt := 22) dX4_lengths_17 rfl ?_
    exact ri_OW hret hf dX4_lengths_22 rfl
theorem t_X4_lengths (l : Launch) {E : EvT} {A : Nat → Nat} {V : Nat → Nat → Int32} {L : Nat → Int64} {r0 : Int32} {V0 : Nat → Nat → Int32} {L0 : Nat → Int64} (hq : f_X4_lengths V L = some (r0, V0, L0)) : KI l yX4_lengths (.code yX4_lengths cX4_lengths 1 (some .int) :: wA) rm_X4_lengths E (cw E A V L) (cw E A V0 L0) [.ref (A 0)] r0 := by
  refine ent_I (own := RX4) (ty := .int) (lv0 := [(0, .ref (A 0))]) (by decide) rfl rfl (Nat.le_of_ble_eq_true rfl) rfl (cw_fst _ _ _ _ _ _) ?_
  intro X Z Q hl C K hret
  exact w_X4_lengths_0 C K hret V L  hq
set_option maxRecDepth 100000 in
theorem w_X4_from_0 {X : XT} {E : EvT} {Z : Nat → Prop} {Q : State → Prop} {A : Nat → Nat} (C : Cx X (.code yX4_from cX4_from 1 (some .int)) cX4_from 1 RX4 rm_X4_from.frames rm_X4_from.locals) (K : Ck X E Z) {r0 : Int32} {V0 : Nat → Nat → Int32} {L0 : Nat → Int64} (hret : RI X 1 cX4_from (IF X E Z (cw E A)) Q .int r0 (V0, L0)) : ∀ (V : Nat → Nat → Int32) (L : Nat → Int64), f_X4_from V L = some (r0, V0, L0) → Wm X 1 (IF X E Z (cw E A)) Q 0 [(0, .ref (A 0))] [] (V, L) := by
  intro V L hf
  rw [f_X4_from] at hf
  refine r_aload_n C dX4_from_0 0 rfl rfl ?_
  refine g_RX4_19_0 C K dX4_from_1 ?_
  refine f_callI C K cal_RX4_123 ⟨rfl, rfl, Nat.le_of_ble_eq_true rfl, Nat.le_of_ble_eq_true rfl⟩ (t_X3_hasRing _) (cw_o5 E A _ _) rfl (cw_fst _ _ _ _ _ _) rfl (rest := []) rfl (Nat.le_of_ble_eq_true rfl) dX4_from_4 ?_
  refine r_if_eq C (tgt := 27) dX4_from_7 rfl hf (fun hf => ?_) (fun hf => ?_)
  · refine r_bipush C dX4_from_27 kb_m103 ?_
    exact ri_OW hret hf dX4_from_29 rfl
  · refine r_aload_n C dX4_from_10 0 rfl rfl ?_
    refine g_RX4_31_0 C K dX4_from_11 ?_
    refine r_aload_n C dX4_from_14 0 rfl rfl ?_
    refine g_RX4_31_0 C K dX4_from_15 ?_
    refine bd3_e hf (fun r_1 V_2 L_3 hq hf => ?_)
    refine f_callI C K cal_RX4_159 ⟨rfl, rfl, Nat.le_of_ble_eq_true rfl, Nat.le_of_ble_eq_true rfl⟩ (t_X1_lengthBits _ hq) (cw_o15 E A _ _) rfl (cw_fst _ _ _ _ _ _) rfl (rest := [.ref (A 15)]) rfl (Nat.le_of_ble_eq_true rfl) dX4_from_18 ?_
    refine bd3_e hf (fun r_4 V_5 L_6 hq hf => ?_)
    refine f_callI C K cal_RX4_162 ⟨rfl, rfl, Nat.le_of_ble_eq_true rfl, Nat.le_of_ble_eq_true rfl⟩ (t_X1_tellingStart _ r_1 hq) (cw_o15 E A _ _) rfl (cw_fst _ _ _ _ _ _) rfl (rest := []) rfl (Nat.le_of_ble_eq_true rfl) dX4_from_21 ?_
    refine r_goto C (tgt := 29) dX4_from_24 rfl ?_
    exact ri_OW hret hf dX4_from_29 rfl
theorem t_X4_from (l : Launch) {E : EvT} {A : Nat → Nat} {V : Nat → Nat → Int32} {L : Nat → Int64} {r0 : Int32} {V0 : Nat → Nat → Int32} {L0 : Nat → Int64} (hq : f_X4_from V L = some (r0, V0, L0)) : KI l yX4_from (.code yX4_from cX4_from 1 (some .int) :: wA) rm_X4_from E (cw E A V L) (cw E A V0 L0) [.ref (A 0)] r0 := by
  refine ent_I (own := RX4) (ty := .int) (lv0 := [(0, .ref (A 0))]) (by decide) rfl rfl (Nat.le_of_ble_eq_true rfl) rfl (cw_fst _ _ _ _ _ _) ?_
  intro X Z Q hl C K hret
  exact w_X4_from_0 C K hret V L  hq
set_option maxRecDepth 100000 in
theorem w_X4_rounds_0 {X : XT} {E : EvT} {Z : Nat → Prop} {Q : State → Prop} {A : Nat → Nat} (C : Cx X (.code yX4_rounds cX4_rounds 4 (some .int)) cX4_rounds 4 RX4 rm_X4_rounds.frames rm_X4_rounds.locals) (K : Ck X E Z) {r0 : Int32} {V0 : Nat → Nat → Int32} {L0 : Nat → Int64} (hret : RI X 4 cX4_rounds (IF X E Z (cw E A)) Q .int r0 (V0, L0)) : ∀ (V : Nat → Nat → Int32) (L : Nat → Int64) (x1 : Int32) (x2 : Int32) (x3 : Int32), f_X4_rounds V L x1 x2 x3 = some (r0, V0, L0) → Wm X 4 (IF X E Z (cw E A)) Q 0 [(0, .ref (A 0)), (1, .int x1), (2, .int x2), (3, .int x3)] [] (V, L) := by
  intro V L x1 x2 x3 hf
  rw [f_X4_rounds] at hf
  refine r_iload_n C dX4_rounds_0 1 rfl rfl ?_
  refine r_iconst C dX4_rounds_1 ki_1 ?_
  refine r_icmp_lt C (tgt := 24) dX4_rounds_2 rfl hf (fun hf => ?_) (fun hf => ?_)
  · refine r_bipush C dX4_rounds_24 kb_m102 ?_
    exact ri_OW hret hf dX4_rounds_26 rfl
  · refine r_iload_n C dX4_rounds_5 1 rfl rfl ?_
    refine r_bipush C dX4_rounds_6 kb_60 ?_
    refine r_icmp_gt C (tgt := 24) dX4_rounds_8 rfl hf (fun hf => ?_) (fun hf => ?_)
    · refine r_bipush C dX4_rounds_24 kb_m102 ?_
      exact ri_OW hret hf dX4_rounds_26 rfl
    · refine r_iload_n C dX4_rounds_11 2 rfl rfl ?_
      refine r_if_lt C (tgt := 24) dX4_rounds_12 rfl hf (fun hf => ?_) (fun hf => ?_)
      · refine r_bipush C dX4_rounds_24 kb_m102 ?_
        exact ri_OW hret hf dX4_rounds_26 rfl
      · refine r_iload_n C dX4_rounds_15 3 rfl rfl ?_
        refine r_if_lt C (tgt := 24) dX4_rounds_16 rfl hf (fun hf => ?_) (fun hf => ?_)
        · refine r_bipush C dX4_rounds_24 kb_m102 ?_
          exact ri_OW hret hf dX4_rounds_26 rfl
        · refine r_iload_n C dX4_rounds_19 3 rfl rfl ?_
          refine r_iconst C dX4_rounds_20 ki_2 ?_
          refine r_icmp_le C (tgt := 27) dX4_rounds_21 rfl hf (fun hf => ?_) (fun hf => ?_)
          · refine r_aload_n C dX4_rounds_27 0 rfl rfl ?_
            refine g_RX4_19_0 C K dX4_rounds_28 ?_
            refine f_callI C K cal_RX4_123 ⟨rfl, rfl, Nat.le_of_ble_eq_true rfl, Nat.le_of_ble_eq_true rfl⟩ (t_X3_hasRing _) (cw_o5 E A _ _) rfl (cw_fst _ _ _ _ _ _) rfl (rest := []) rfl (Nat.le_of_ble_eq_true rfl) dX4_rounds_31 ?_
            refine r_if_eq C (tgt := 50) dX4_rounds_34 rfl hf (fun hf => ?_) (fun hf => ?_)
            · refine r_bipush C dX4_rounds_50 kb_m103 ?_
              exact ri_OW hret hf dX4_rounds_52 rfl
            · refine r_aload_n C dX4_rounds_37 0 rfl rfl ?_
              refine g_RX4_31_0 C K dX4_rounds_38 ?_
              refine r_iload_n C dX4_rounds_41 1 rfl rfl ?_
              refine r_iload_n C dX4_rounds_42 2 rfl rfl ?_
              refine r_iload_n C dX4_rounds_43 3 rfl rfl ?_
              refine bd3_e hf (fun r_1 V_2 L_3 hq hf => ?_)
              refine f_callI C K cal_RX4_165 ⟨rfl, rfl, Nat.le_of_ble_eq_true rfl, Nat.le_of_ble_eq_true rfl⟩ (t_X1_playRounds _ x1 x2 x3 hq) (cw_o15 E A _ _) rfl (cw_fst _ _ _ _ _ _) rfl (rest := []) rfl (Nat.le_of_ble_eq_true rfl) dX4_rounds_44 ?_
              refine r_goto C (tgt := 52) dX4_rounds_47 rfl ?_
              exact ri_OW hret hf dX4_rounds_52 rfl
          · refine r_bipush C dX4_rounds_24 kb_m102 ?_
            exact ri_OW hret hf dX4_rounds_26 rfl
theorem t_X4_rounds (l : Launch) {E : EvT} {A : Nat → Nat} {V : Nat → Nat → Int32} {L : Nat → Int64} (x1 : Int32) (x2 : Int32) (x3 : Int32) {r0 : Int32} {V0 : Nat → Nat → Int32} {L0 : Nat → Int64} (hq : f_X4_rounds V L x1 x2 x3 = some (r0, V0, L0)) : KI l yX4_rounds (.code yX4_rounds cX4_rounds 4 (some .int) :: wA) rm_X4_rounds E (cw E A V L) (cw E A V0 L0) [.ref (A 0), .int x1, .int x2, .int x3] r0 := by
  refine ent_I (own := RX4) (ty := .int) (lv0 := [(0, .ref (A 0)), (1, .int x1), (2, .int x2), (3, .int x3)]) (by decide) rfl rfl (Nat.le_of_ble_eq_true rfl) rfl (cw_fst _ _ _ _ _ _) ?_
  intro X Z Q hl C K hret
  exact w_X4_rounds_0 C K hret V L x1 x2 x3 hq
set_option maxRecDepth 100000 in
theorem w_X4_image_0 {X : XT} {E : EvT} {Z : Nat → Prop} {Q : State → Prop} {A : Nat → Nat} (C : Cx X (.code yX4_image cX4_image 1 (some .int)) cX4_image 1 RX4 rm_X4_image.frames rm_X4_image.locals) (K : Ck X E Z) {r0 : Int32} {V0 : Nat → Nat → Int32} {L0 : Nat → Int64} (hret : RI X 1 cX4_image (IF X E Z (cw E A)) Q .int r0 (V0, L0)) : ∀ (V : Nat → Nat → Int32) (L : Nat → Int64), f_X4_image V L = some (r0, V0, L0) → Wm X 1 (IF X E Z (cw E A)) Q 0 [(0, .ref (A 0))] [] (V, L) := by
  intro V L hf
  rw [f_X4_image] at hf
  refine r_aload_n C dX4_image_0 0 rfl rfl ?_
  refine g_RX4_19_0 C K dX4_image_1 ?_
  refine f_callI C K cal_RX4_123 ⟨rfl, rfl, Nat.le_of_ble_eq_true rfl, Nat.le_of_ble_eq_true rfl⟩ (t_X3_hasRing _) (cw_o5 E A _ _) rfl (cw_fst _ _ _ _ _ _) rfl (rest := []) rfl (Nat.le_of_ble_eq_true rfl) dX4_image_4 ?_
  refine r_if_ne C (tgt := 13) dX4_image_7 rfl hf (fun hf => ?_) (fun hf => ?_)
  · refine r_aload_n C dX4_image_13 0 rfl rfl ?_
    refine g_RX4_23_0 C K dX4_image_14 ?_
    refine r_aload_n C dX4_image_17 0 rfl rfl ?_
    refine g_RX4_19_0 C K dX4_image_18 ?_
    refine bd2_e hf (fun V_1 L_2 hq hf => ?_)
    refine f_callV C K cal_RX4_169 ⟨rfl, rfl, Nat.le_of_ble_eq_true rfl, Nat.le_of_ble_eq_true rfl⟩ (t_X3_takeAll_10_5 _ hq) (cw_o10 E A _ _) rfl (cw_fst _ _ _ _ _ _) rfl (rest := []) rfl (Nat.le_of_ble_eq_true rfl) dX4_image_21 ?_
    refine r_aload_n C dX4_image_24 0 rfl rfl ?_
    refine r_iconst C dX4_image_25 ki_1 ?_
    refine p_RX4_55_0 rfl C K dX4_image_26 hf (fun V_3 hf => ?_)
    refine r_aload_n C dX4_image_29 0 rfl rfl ?_
    refine g_RX4_23_0 C K dX4_image_30 ?_
    refine g_RX4_111_10 C K dX4_image_33 ?_
    exact ri_OW hret hf dX4_image_36 rfl
  · refine r_bipush C dX4_image_10 kb_m103 ?_
    exact ri_OW hret hf dX4_image_12 rfl
theorem t_X4_image (l : Launch) {E : EvT} {A : Nat → Nat} {V : Nat → Nat → Int32} {L : Nat → Int64} {r0 : Int32} {V0 : Nat → Nat → Int32} {L0 : Nat → Int64} (hq : f_X4_image V L = some (r0, V0, L0)) : KI l yX4_image (.code yX4_image cX4_image 1 (some .int) :: wA) rm_X4_image E (cw E A V L) (cw E A V0 L0) [.ref (A 0)] r0 := by
  refine ent_I (own := RX4) (ty := .int) (lv0 := [(0, .ref (A 0))]) (by decide) rfl rfl (Nat.le_of_ble_eq_true rfl) rfl (cw_fst _ _ _ _ _ _) ?_
  intro X Z Q hl C K hret
  exact w_X4_image_0 C K hret V L  hq
set_option maxRecDepth 100000 in
theorem w_X4_restore_0 {X : XT} {E : EvT} {Z : Nat → Prop} {Q : State → Prop} {A : Nat → Nat} (C : Cx X (.code yX4_restore cX4_restore 1 (some .int)) cX4_restore 1 RX4 rm_X4_restore.frames rm_X4_restore.locals) (K : Ck X E Z) {r0 : Int32} {V0 : Nat → Nat → Int32} {L0 : Nat → Int64} (hret : RI X 1 cX4_restore (IF X E Z (cw E A)) Q .int r0 (V0, L0)) : ∀ (V : Nat → Nat → Int32) (L : Nat → Int64), f_X4_restore V L = some (r0, V0, L0) → Wm X 1 (IF X E Z (cw E A)) Q 0 [(0, .ref (A 0))] [] (V, L) := by
  intro V L hf
  rw [f_X4_restore] at hf
  refine r_aload_n C dX4_restore_0 0 rfl rfl ?_
  refine g_RX4_55_0 C K dX4_restore_1 ?_
  refine r_if_ne C (tgt := 10) dX4_restore_4 rfl hf (fun hf => ?_) (fun hf => ?_)
  · refine r_aload_n C dX4_restore_10 0 rfl rfl ?_
    refine g_RX4_19_0 C K dX4_restore_11 ?_
    refine r_aload_n C dX4_restore_14 0 rfl rfl ?_
    refine g_RX4_23_0 C K dX4_restore_15 ?_
    refine bd2_e hf (fun V_1 L_2 hq hf => ?_)
    refine f_callV C K cal_RX4_169 ⟨rfl, rfl, Nat.le_of_ble_eq_true rfl, Nat.le_of_ble_eq_true rfl⟩ (t_X3_takeAll_5_10 _ hq) (cw_o5 E A _ _) rfl (cw_fst _ _ _ _ _ _) rfl (rest := []) rfl (Nat.le_of_ble_eq_true rfl) dX4_restore_18 ?_
    refine r_aload_n C dX4_restore_21 0 rfl rfl ?_
    refine g_RX4_19_0 C K dX4_restore_22 ?_
    refine g_RX4_111_5 C K dX4_restore_25 ?_
    exact ri_OW hret hf dX4_restore_28 rfl
  · refine r_bipush C dX4_restore_7 kb_m103 ?_
    exact ri_OW hret hf dX4_restore_9 rfl
theorem t_X4_restore (l : Launch) {E : EvT} {A : Nat → Nat} {V : Nat → Nat → Int32} {L : Nat → Int64} {r0 : Int32} {V0 : Nat → Nat → Int32} {L0 : Nat → Int64} (hq : f_X4_restore V L = some (r0, V0, L0)) : KI l yX4_restore (.code yX4_restore cX4_restore 1 (some .int) :: wA) rm_X4_restore E (cw E A V L) (cw E A V0 L0) [.ref (A 0)] r0 := by
  refine ent_I (own := RX4) (ty := .int) (lv0 := [(0, .ref (A 0))]) (by decide) rfl rfl (Nat.le_of_ble_eq_true rfl) rfl (cw_fst _ _ _ _ _ _) ?_
  intro X Z Q hl C K hret
  exact w_X4_restore_0 C K hret V L  hq
set_option maxRecDepth 100000 in
theorem w_X4_count_0 {X : XT} {E : EvT} {Z : Nat → Prop} {Q : State → Prop} {A : Nat → Nat} (C : Cx X (.code yX4_count cX4_count 3 (some .int)) cX4_count 3 RX4 rm_X4_count.frames rm_X4_count.locals) (K : Ck X E Z) {r0 : Int32} {V : Nat → Nat → Int32} {L : Nat → Int64} (hret : RI X 3 cX4_count (IF X E Z (cw E A)) Q .int r0 (V, L)) : ∀ (x1 : Int32), f_X4_count V L x1 = r0 → Wm X 3 (IF X E Z (cw E A)) Q 0 [(0, .ref (A 0)), (1, .int x1)] [] (V, L) := by
  intro x1 hf
  rw [f_X4_count] at hf
  refine r_aload_n C dX4_count_0 0 rfl rfl ?_
  refine g_RX4_19_0 C K dX4_count_1 ?_
  refine g_RX4_62_5 C K dX4_count_4 ?_
  refine r_astore_n C dX4_count_7 rfl (Nat.le_of_ble_eq_true rfl) (lv2 := [(2, .ref (A 6)), (0, .ref (A 0)), (1, .int x1)]) rfl ?_
  refine r_iload_n C dX4_count_8 2 rfl rfl ?_
  refine br_if hf (fun hq hf => ?_) (fun h0 hf => ?_)
  · refine r_tblIn C (off := 59) (tgt := 68) dX4_count_9 (by rw [hq]; decide) (by rw [hq]; decide) (by rw [hq]; rfl) rfl ?_
    refine r_aload_n C dX4_count_68 0 rfl rfl ?_
    refine g_RX4_66_6 C K dX4_count_69 ?_
    exact ri_T hret hf dX4_count_72 rfl
  refine br_if hf (fun hq hf => ?_) (fun h1 hf => ?_)
  · refine r_tblIn C (off := 64) (tgt := 73) dX4_count_9 (by rw [hq]; decide) (by rw [hq]; decide) (by rw [hq]; rfl) rfl ?_
    refine r_aload_n C dX4_count_73 0 rfl rfl ?_
    refine s_callIr C K jc6 cal_RX4_120 ⟨rfl, rfl, Nat.le_of_ble_eq_true rfl, Nat.le_of_ble_eq_true rfl⟩ (t_X0_howManyIn _ jc6) rfl (rest := []) rfl (Nat.le_of_ble_eq_true rfl) dX4_count_74 ?_
    exact ri_T hret hf dX4_count_77 rfl
  refine br_if hf (fun hq hf => ?_) (fun h2 hf => ?_)
  · refine r_tblIn C (off := 69) (tgt := 78) dX4_count_9 (by rw [hq]; decide) (by rw [hq]; decide) (by rw [hq]; rfl) rfl ?_
    refine r_aload_n C dX4_count_78 1 rfl rfl ?_
    refine g_RX4_19_0 C K dX4_count_79 ?_
    refine g_RX4_172_5 C K dX4_count_82 ?_
    exact ri_T hret hf dX4_count_85 rfl
  refine br_if hf (fun hq hf => ?_) (fun h3 hf => ?_)
  · refine r_tblIn C (off := 77) (tgt := 86) dX4_count_9 (by rw [hq]; decide) (by rw [hq]; decide) (by rw [hq]; rfl) rfl ?_
    refine r_aload_n C dX4_count_86 0 rfl rfl ?_
    refine g_RX4_175_6 C K dX4_count_87 ?_
    refine r_callP C cas_RX4_178 ⟨rfl, rfl, Nat.le_of_ble_eq_true rfl, Nat.le_of_ble_eq_true rfl⟩ (t_J6_bitCount_0f7a4 _ (V 6 6)) rfl (rest := []) rfl (Nat.le_of_ble_eq_true rfl) dX4_count_90 ?_
    exact ri_T hret hf dX4_count_93 rfl
  refine br_if hf (fun hq hf => ?_) (fun h4 hf => ?_)
  · refine r_tblIn C (off := 85) (tgt := 94) dX4_count_9 (by rw [hq]; decide) (by rw [hq]; decide) (by rw [hq]; rfl) rfl ?_
    refine r_aload_n C dX4_count_94 0 rfl rfl ?_
    refine g_RX4_88_6 C K dX4_count_95 ?_
    exact ri_T hret hf dX4_count_98 rfl
  refine br_if hf (fun hq hf => ?_) (fun h5 hf => ?_)
  · refine r_tblIn C (off := 90) (tgt := 99) dX4_count_9 (by rw [hq]; decide) (by rw [hq]; decide) (by rw [hq]; rfl) rfl ?_
    refine r_aload_n C dX4_count_99 0 rfl rfl ?_
    refine g_RX4_126_6 C K dX4_count_100 ?_
    refine r_if_eq C (tgt := 110) dX4_count_103 rfl hf (fun hf => ?_) (fun hf => ?_)
    · refine r_iconst C dX4_count_110 ki_0 ?_
      exact ri_T hret hf dX4_count_111 rfl
    · refine r_iconst C dX4_count_106 ki_1 ?_
      refine r_goto C (tgt := 111) dX4_count_107 rfl ?_
      exact ri_T hret hf dX4_count_111 rfl
  refine br_if hf (fun hq hf => ?_) (fun h6 hf => ?_)
  · refine r_tblIn C (off := 103) (tgt := 112) dX4_count_9 (by rw [hq]; decide) (by rw [hq]; decide) (by rw [hq]; rfl) rfl ?_
    refine r_aload_n C dX4_count_112 1 rfl rfl ?_
    refine g_RX4_19_0 C K dX4_count_113 ?_
    refine g_RX4_111_5 C K dX4_count_116 ?_
    exact ri_T hret hf dX4_count_119 rfl
  refine br_if hf (fun hq hf => ?_) (fun h7 hf => ?_)
  · refine r_tblIn C (off := 111) (tgt := 120) dX4_count_9 (by rw [hq]; decide) (by rw [hq]; decide) (by rw [hq]; rfl) rfl ?_
    refine r_aload_n C dX4_count_120 0 rfl rfl ?_
    refine s_callIr C K jc6 cal_RX4_183 ⟨rfl, rfl, Nat.le_of_ble_eq_true rfl, Nat.le_of_ble_eq_true rfl⟩ (t_X0_takenTogether _ jc6) rfl (rest := []) rfl (Nat.le_of_ble_eq_true rfl) dX4_count_121 ?_
    exact ri_T hret hf dX4_count_124 rfl
  refine br_if hf (fun hq hf => ?_) (fun h8 hf => ?_)
  · refine r_tblIn C (off := 116) (tgt := 125) dX4_count_9 (by rw [hq]; decide) (by rw [hq]; decide) (by rw [hq]; rfl) rfl ?_
    refine r_aload_n C dX4_count_125 1 rfl rfl ?_
    refine g_RX4_19_0 C K dX4_count_126 ?_
    refine g_RX4_156_5 C K dX4_count_129 ?_
    exact ri_T hret hf dX4_count_132 rfl
  refine br_if hf (fun hq hf => ?_) (fun h9 hf => ?_)
  · refine r_tblIn C (off := 124) (tgt := 133) dX4_count_9 (by rw [hq]; decide) (by rw [hq]; decide) (by rw [hq]; rfl) rfl ?_
    refine r_aload_n C dX4_count_133 1 rfl rfl ?_
    refine g_RX4_15_0 C K dX4_count_134 ?_
    refine g_RX4_39_1 C K dX4_count_137 ?_
    exact ri_T hret hf dX4_count_140 rfl
  refine br_if hf (fun hq hf => ?_) (fun h10 hf => ?_)
  · refine r_tblIn C (off := 132) (tgt := 141) dX4_count_9 (by rw [hq]; decide) (by rw [hq]; decide) (by rw [hq]; rfl) rfl ?_
    refine r_aload_n C dX4_count_141 1 rfl rfl ?_
    refine g_RX4_59_0 C K dX4_count_142 ?_
    exact ri_T hret hf dX4_count_145 rfl
  refine r_tblOut C (tgt := 146) dX4_count_9 (by have q0 := lv_neT (a := 0) h0 rfl; have q1 := lv_neT (a := 1) h1 rfl; have q2 := lv_neT (a := 2) h2 rfl; have q3 := lv_neT (a := 3) h3 rfl; have q4 := lv_neT (a := 4) h4 rfl; have q5 := lv_neT (a := 5) h5 rfl; have q6 := lv_neT (a := 6) h6 rfl; have q7 := lv_neT (a := 7) h7 rfl; have q8 := lv_neT (a := 8) h8 rfl; have q9 := lv_neT (a := 9) h9 rfl; have q10 := lv_neT (a := 10) h10 rfl; omega) rfl ?_
  refine r_bipush C dX4_count_146 kb_m102 ?_
  exact ri_T hret hf dX4_count_148 rfl
theorem t_X4_count (l : Launch) {E : EvT} {A : Nat → Nat} {V : Nat → Nat → Int32} {L : Nat → Int64} (x1 : Int32) : KI l yX4_count (.code yX4_count cX4_count 3 (some .int) :: wA) rm_X4_count E (cw E A V L) (cw E A V L) [.ref (A 0), .int x1] (f_X4_count V L x1) := by
  refine ent_I (own := RX4) (ty := .int) (lv0 := [(0, .ref (A 0)), (1, .int x1)]) (by decide) rfl rfl (Nat.le_of_ble_eq_true rfl) rfl (cw_fst _ _ _ _ _ _) ?_
  intro X Z Q hl C K hret
  exact w_X4_count_0 C K hret  x1 rfl
