set_option maxRecDepth 100000 in
theorem w_X2_append_0 {X : XT} {E : EvT} {Z : Nat → Prop} {Q : State → Prop} {A : Nat → Nat} (C : Cx X (.code yX2_append cX2_append 2 (some .boolean)) cX2_append 2 RX2 rm_X2_append.frames rm_X2_append.locals) (K : Ck X E Z) {r0 : Int32} {V0 : Nat → Nat → Int32} {L0 : Nat → Int64} (hret : RI X 2 cX2_append (IF X E Z (cw E A)) Q .boolean r0 (V0, L0)) : ∀ (V : Nat → Nat → Int32) (L : Nat → Int64) (x1 : Int32), f_X2_append V L x1 = some (r0, V0, L0) → Wm X 2 (IF X E Z (cw E A)) Q 0 [(0, .ref (A 1)), (1, .int x1)] [] (V, L) := by
  intro V L x1 hf
  rw [f_X2_append] at hf
  refine r_aload_n C dX2_append_0 0 rfl rfl ?_
  refine g_RX2_21_1 C K dX2_append_1 ?_
  refine r_if_lt C (tgt := 19) dX2_append_4 rfl hf (fun hf => ?_) (fun hf => ?_)
  · refine r_iconst C dX2_append_19 ki_0 ?_
    exact ri_OW hret hf dX2_append_20 rfl
  · refine r_aload_n C dX2_append_7 0 rfl rfl ?_
    refine g_RX2_21_1 C K dX2_append_8 ?_
    refine r_aload_n C dX2_append_11 0 rfl rfl ?_
    refine g_RX2_9_1 C K dX2_append_12 ?_
    refine s_alen C K (cw_a2 E A _ _) (r := 20) (by decide) dX2_append_15 ?_
    refine r_icmp_lt C (tgt := 21) dX2_append_16 rfl hf (fun hf => ?_) (fun hf => ?_)
    · refine r_aload_n C dX2_append_21 0 rfl rfl ?_
      refine g_RX2_9_1 C K dX2_append_22 ?_
      refine r_aload_n C dX2_append_25 0 rfl rfl ?_
      refine g_RX2_21_1 C K dX2_append_26 ?_
      refine r_iload_n C dX2_append_29 1 rfl rfl ?_
      refine s_iast C K (cw_a2 E A _ _) (fun z => cw_s2 E A _ _ _) dX2_append_30 hf (fun V_1 hf => ?_)
      refine r_aload_n C dX2_append_31 0 rfl rfl ?_
      refine r_dup C dX2_append_32 rfl ?_
      refine g_RX2_21_1 C K dX2_append_33 ?_
      refine r_iconst C dX2_append_36 ki_1 ?_
      refine r_iadd C dX2_append_37 ?_
      refine p_RX2_21_1 C K dX2_append_38 hf (fun V_2 hf => ?_)
      refine r_iconst C dX2_append_41 ki_1 ?_
      exact ri_OW hret hf dX2_append_42 rfl
    · refine r_iconst C dX2_append_19 ki_0 ?_
      exact ri_OW hret hf dX2_append_20 rfl
theorem t_X2_append (l : Launch) {E : EvT} {A : Nat → Nat} {V : Nat → Nat → Int32} {L : Nat → Int64} (x1 : Int32) {r0 : Int32} {V0 : Nat → Nat → Int32} {L0 : Nat → Int64} (hq : f_X2_append V L x1 = some (r0, V0, L0)) : KI l yX2_append (.code yX2_append cX2_append 2 (some .boolean) :: wA) rm_X2_append E (cw E A V L) (cw E A V0 L0) [.ref (A 1), .int x1] r0 := by
  refine ent_I (own := RX2) (ty := .boolean) (lv0 := [(0, .ref (A 1)), (1, .int x1)]) (by decide) rfl rfl (Nat.le_of_ble_eq_true rfl) rfl (cw_fst _ _ _ _ _ _) ?_
  intro X Z Q hl C K hret
  exact w_X2_append_0 C K hret V L x1 hq
set_option maxRecDepth 100000 in
theorem w_X2_readsTens_0 {X : XT} {E : EvT} {Z : Nat → Prop} {Q : State → Prop} {A : Nat → Nat} (C : Cx X (.code yX2_readsTens cX2_readsTens 2 (some .boolean)) cX2_readsTens 2 RX2 rm_X2_readsTens.frames rm_X2_readsTens.locals) (K : Ck X E Z) {r0 : Int32} {V0 : Nat → Nat → Int32} {L0 : Nat → Int64} (hret : RI X 2 cX2_readsTens (IF X E Z (cw E A)) Q .boolean r0 (V0, L0)) : ∀ (V : Nat → Nat → Int32) (L : Nat → Int64) (x1 : Int32), f_X2_readsTens V L x1 = some (r0, V0, L0) → Wm X 2 (IF X E Z (cw E A)) Q 0 [(0, .ref (A 1)), (1, .int x1)] [] (V, L) := by
  intro V L x1 hf
  rw [f_X2_readsTens] at hf
  refine r_iload_n C dX2_readsTens_0 1 rfl rfl ?_
  refine r_bipush C dX2_readsTens_1 kb_48 ?_
  refine r_icmp_lt C (tgt := 12) dX2_readsTens_3 rfl hf (fun hf => ?_) (fun hf => ?_)
  · refine r_iconst C dX2_readsTens_12 ki_0 ?_
    exact ri_OW hret hf dX2_readsTens_13 rfl
  · refine r_iload_n C dX2_readsTens_6 1 rfl rfl ?_
    refine r_bipush C dX2_readsTens_7 kb_57 ?_
    refine r_icmp_le C (tgt := 14) dX2_readsTens_9 rfl hf (fun hf => ?_) (fun hf => ?_)
    · refine r_aload_n C dX2_readsTens_14 0 rfl rfl ?_
      refine r_iload_n C dX2_readsTens_15 1 rfl rfl ?_
      refine r_bipush C dX2_readsTens_16 kb_48 ?_
      refine r_isub C dX2_readsTens_18 ?_
      refine p_RX2_54_1 C K dX2_readsTens_19 hf (fun V_1 hf => ?_)
      refine r_aload_n C dX2_readsTens_22 0 rfl rfl ?_
      refine r_iconst C dX2_readsTens_23 ki_1 ?_
      refine p_RX2_32_1 C K dX2_readsTens_24 hf (fun V_2 hf => ?_)
      refine r_iconst C dX2_readsTens_27 ki_1 ?_
      exact ri_OW hret hf dX2_readsTens_28 rfl
    · refine r_iconst C dX2_readsTens_12 ki_0 ?_
      exact ri_OW hret hf dX2_readsTens_13 rfl
theorem t_X2_readsTens (l : Launch) {E : EvT} {A : Nat → Nat} {V : Nat → Nat → Int32} {L : Nat → Int64} (x1 : Int32) {r0 : Int32} {V0 : Nat → Nat → Int32} {L0 : Nat → Int64} (hq : f_X2_readsTens V L x1 = some (r0, V0, L0)) : KI l yX2_readsTens (.code yX2_readsTens cX2_readsTens 2 (some .boolean) :: wA) rm_X2_readsTens E (cw E A V L) (cw E A V0 L0) [.ref (A 1), .int x1] r0 := by
  refine ent_I (own := RX2) (ty := .boolean) (lv0 := [(0, .ref (A 1)), (1, .int x1)]) (by decide) rfl rfl (Nat.le_of_ble_eq_true rfl) rfl (cw_fst _ _ _ _ _ _) ?_
  intro X Z Q hl C K hret
  exact w_X2_readsTens_0 C K hret V L x1 hq
set_option maxRecDepth 100000 in
theorem w_X2_readsOnes_0 {X : XT} {E : EvT} {Z : Nat → Prop} {Q : State → Prop} {A : Nat → Nat} (C : Cx X (.code yX2_readsOnes cX2_readsOnes 3 (some .boolean)) cX2_readsOnes 3 RX2 rm_X2_readsOnes.frames rm_X2_readsOnes.locals) (K : Ck X E Z) {r0 : Int32} {V0 : Nat → Nat → Int32} {L0 : Nat → Int64} (hret : RI X 3 cX2_readsOnes (IF X E Z (cw E A)) Q .boolean r0 (V0, L0)) : ∀ (V : Nat → Nat → Int32) (L : Nat → Int64) (x1 : Int32), f_X2_readsOnes V L x1 = some (r0, V0, L0) → Wm X 3 (IF X E Z (cw E A)) Q 0 [(0, .ref (A 1)), (1, .int x1)] [] (V, L) := by
  intro V L x1 hf
  rw [f_X2_readsOnes] at hf
  refine r_bipush C dX2_readsOnes_0 kb_10 ?_
  refine r_aload_n C dX2_readsOnes_2 0 rfl rfl ?_
  refine g_RX2_54_1 C K dX2_readsOnes_3 ?_
  refine r_imul C dX2_readsOnes_6 ?_
  refine r_iload_n C dX2_readsOnes_7 1 rfl rfl ?_
  refine r_iadd C dX2_readsOnes_8 ?_
  refine r_bipush C dX2_readsOnes_9 kb_48 ?_
  refine r_isub C dX2_readsOnes_11 ?_
  refine b_int hf (fun t_1 hf => ?_)
  refine r_istore_n C dX2_readsOnes_12 rfl (Nat.le_of_ble_eq_true rfl) (lv2 := [(2, .int t_1), (0, .ref (A 1)), (1, .int x1)]) rfl ?_
  refine r_iload_n C dX2_readsOnes_13 2 rfl rfl ?_
  refine r_bipush C dX2_readsOnes_14 kb_48 ?_
  refine r_icmp_lt C (tgt := 42) dX2_readsOnes_16 rfl hf (fun hf => ?_) (fun hf => ?_)
  · refine r_iconst C dX2_readsOnes_42 ki_0 ?_
    exact ri_OW hret hf dX2_readsOnes_43 rfl
  · refine r_iload_n C dX2_readsOnes_19 2 rfl rfl ?_
    refine r_bipush C dX2_readsOnes_20 kb_57 ?_
    refine r_icmp_gt C (tgt := 42) dX2_readsOnes_22 rfl hf (fun hf => ?_) (fun hf => ?_)
    · refine r_iconst C dX2_readsOnes_42 ki_0 ?_
      exact ri_OW hret hf dX2_readsOnes_43 rfl
    · refine r_iload_n C dX2_readsOnes_25 0 rfl rfl ?_
      refine r_iconst C dX2_readsOnes_26 ki_1 ?_
      refine r_icmp_lt C (tgt := 42) dX2_readsOnes_27 rfl hf (fun hf => ?_) (fun hf => ?_)
      · refine r_iconst C dX2_readsOnes_42 ki_0 ?_
        exact ri_OW hret hf dX2_readsOnes_43 rfl
      · refine r_aload_n C dX2_readsOnes_30 1 rfl rfl ?_
        refine g_RX2_35_1 C K dX2_readsOnes_31 ?_
        refine r_aload_n C dX2_readsOnes_34 1 rfl rfl ?_
        refine g_RX2_15_1 C K dX2_readsOnes_35 ?_
        refine s_alen C K (cw_a3 E A _ _) (r := 3) (by decide) dX2_readsOnes_38 ?_
        refine r_icmp_lt C (tgt := 44) dX2_readsOnes_39 rfl hf (fun hf => ?_) (fun hf => ?_)
        · refine r_aload_n C dX2_readsOnes_44 1 rfl rfl ?_
          refine g_RX2_15_1 C K dX2_readsOnes_45 ?_
          refine r_aload_n C dX2_readsOnes_48 1 rfl rfl ?_
          refine g_RX2_35_1 C K dX2_readsOnes_49 ?_
          refine r_iload_n C dX2_readsOnes_52 0 rfl rfl ?_
          refine s_iast C K (cw_a3 E A _ _) (fun z => cw_s3 E A _ _ _) dX2_readsOnes_53 hf (fun V_2 hf => ?_)
          refine r_aload_n C dX2_readsOnes_54 1 rfl rfl ?_
          refine r_dup C dX2_readsOnes_55 rfl ?_
          refine g_RX2_35_1 C K dX2_readsOnes_56 ?_
          refine r_iconst C dX2_readsOnes_59 ki_1 ?_
          refine r_iadd C dX2_readsOnes_60 ?_
          refine p_RX2_35_1 C K dX2_readsOnes_61 hf (fun V_3 hf => ?_)
          refine r_aload_n C dX2_readsOnes_64 1 rfl rfl ?_
          refine r_iconst C dX2_readsOnes_65 ki_2 ?_
          refine p_RX2_32_1 C K dX2_readsOnes_66 hf (fun V_4 hf => ?_)
          refine r_iconst C dX2_readsOnes_69 ki_1 ?_
          exact ri_OW hret hf dX2_readsOnes_70 rfl
        · refine r_iconst C dX2_readsOnes_42 ki_0 ?_
          exact ri_OW hret hf dX2_readsOnes_43 rfl
theorem t_X2_readsOnes (l : Launch) {E : EvT} {A : Nat → Nat} {V : Nat → Nat → Int32} {L : Nat → Int64} (x1 : Int32) {r0 : Int32} {V0 : Nat → Nat → Int32} {L0 : Nat → Int64} (hq : f_X2_readsOnes V L x1 = some (r0, V0, L0)) : KI l yX2_readsOnes (.code yX2_readsOnes cX2_readsOnes 3 (some .boolean) :: wA) rm_X2_readsOnes E (cw E A V L) (cw E A V0 L0) [.ref (A 1), .int x1] r0 := by
  refine ent_I (own := RX2) (ty := .boolean) (lv0 := [(0, .ref (A 1)), (1, .int x1)]) (by decide) rfl rfl (Nat.le_of_ble_eq_true rfl) rfl (cw_fst _ _ _ _ _ _) ?_
  intro X Z Q hl C K hret
  exact w_X2_readsOnes_0 C K hret V L x1 hq
set_option maxRecDepth 100000 in
theorem w_X2_readsBetween_21 {X : XT} {E : EvT} {Z : Nat → Prop} {Q : State → Prop} {A : Nat → Nat} (C : Cx X (.code yX2_readsBetween cX2_readsBetween 2 (some .boolean)) cX2_readsBetween 2 RX2 rm_X2_readsBetween.frames rm_X2_readsBetween.locals) (K : Ck X E Z) {r0 : Int32} {V0 : Nat → Nat → Int32} {L0 : Nat → Int64} (hret : RI X 2 cX2_readsBetween (IF X E Z (cw E A)) Q .boolean r0 (V0, L0)) : ∀ (V : Nat → Nat → Int32) (L : Nat → Int64) (x1 : Int32), f_X2_readsBetween_21 V L x1 = some (r0, V0, L0) → Wm X 2 (IF X E Z (cw E A)) Q 21 [(0, .ref (A 1)), (1, .int x1)] [] (V, L) := by
  intro V L x1 hf
  rw [f_X2_readsBetween_21] at hf
  refine r_iload_n C dX2_readsBetween_21 1 rfl rfl ?_
  refine r_bipush C dX2_readsBetween_22 kb_59 ?_
  refine r_icmp_ne C (tgt := 34) dX2_readsBetween_24 rfl hf (fun hf => ?_) (fun hf => ?_)
  · refine r_iconst C dX2_readsBetween_34 ki_0 ?_
    exact ri_OW hret hf dX2_readsBetween_35 rfl
  · refine r_aload_n C dX2_readsBetween_27 0 rfl rfl ?_
    refine r_iconst C dX2_readsBetween_28 ki_3 ?_
    refine p_RX2_32_1 C K dX2_readsBetween_29 hf (fun V_1 hf => ?_)
    refine r_iconst C dX2_readsBetween_32 ki_1 ?_
    exact ri_OW hret hf dX2_readsBetween_33 rfl
set_option maxRecDepth 100000 in
theorem w_X2_readsBetween_0 {X : XT} {E : EvT} {Z : Nat → Prop} {Q : State → Prop} {A : Nat → Nat} (C : Cx X (.code yX2_readsBetween cX2_readsBetween 2 (some .boolean)) cX2_readsBetween 2 RX2 rm_X2_readsBetween.frames rm_X2_readsBetween.locals) (K : Ck X E Z) {r0 : Int32} {V0 : Nat → Nat → Int32} {L0 : Nat → Int64} (hret : RI X 2 cX2_readsBetween (IF X E Z (cw E A)) Q .boolean r0 (V0, L0)) : ∀ (V : Nat → Nat → Int32) (L : Nat → Int64) (x1 : Int32), f_X2_readsBetween V L x1 = some (r0, V0, L0) → Wm X 2 (IF X E Z (cw E A)) Q 0 [(0, .ref (A 1)), (1, .int x1)] [] (V, L) := by
  intro V L x1 hf
  rw [f_X2_readsBetween] at hf
  refine r_iload_n C dX2_readsBetween_0 1 rfl rfl ?_
  refine r_bipush C dX2_readsBetween_1 kb_44 ?_
  refine r_icmp_ne C (tgt := 21) dX2_readsBetween_3 rfl hf (fun hf => ?_) (fun hf => ?_)
  · exact r_sub [0, 1] rfl (w_X2_readsBetween_21 C K hret V L x1 hf)
  · refine r_aload_n C dX2_readsBetween_6 0 rfl rfl ?_
    refine g_RX2_35_1 C K dX2_readsBetween_7 ?_
    refine r_iconst C dX2_readsBetween_10 ki_3 ?_
    refine r_icmp_ge C (tgt := 21) dX2_readsBetween_11 rfl hf (fun hf => ?_) (fun hf => ?_)
    · exact r_sub [0, 1] rfl (w_X2_readsBetween_21 C K hret V L x1 hf)
    · refine r_aload_n C dX2_readsBetween_14 0 rfl rfl ?_
      refine r_iconst C dX2_readsBetween_15 ki_0 ?_
      refine p_RX2_32_1 C K dX2_readsBetween_16 hf (fun V_1 hf => ?_)
      refine r_iconst C dX2_readsBetween_19 ki_1 ?_
      exact ri_OW hret hf dX2_readsBetween_20 rfl
theorem t_X2_readsBetween (l : Launch) {E : EvT} {A : Nat → Nat} {V : Nat → Nat → Int32} {L : Nat → Int64} (x1 : Int32) {r0 : Int32} {V0 : Nat → Nat → Int32} {L0 : Nat → Int64} (hq : f_X2_readsBetween V L x1 = some (r0, V0, L0)) : KI l yX2_readsBetween (.code yX2_readsBetween cX2_readsBetween 2 (some .boolean) :: wA) rm_X2_readsBetween E (cw E A V L) (cw E A V0 L0) [.ref (A 1), .int x1] r0 := by
  refine ent_I (own := RX2) (ty := .boolean) (lv0 := [(0, .ref (A 1)), (1, .int x1)]) (by decide) rfl rfl (Nat.le_of_ble_eq_true rfl) rfl (cw_fst _ _ _ _ _ _) ?_
  intro X Z Q hl C K hret
  exact w_X2_readsBetween_0 C K hret V L x1 hq
set_option maxRecDepth 100000 in
theorem w_X2_readsChild_0 {X : XT} {E : EvT} {Z : Nat → Prop} {Q : State → Prop} {A : Nat → Nat} (C : Cx X (.code yX2_readsChild cX2_readsChild 3 (some .boolean)) cX2_readsChild 3 RX2 rm_X2_readsChild.frames rm_X2_readsChild.locals) (K : Ck X E Z) {r0 : Int32} {V0 : Nat → Nat → Int32} {L0 : Nat → Int64} (hret : RI X 3 cX2_readsChild (IF X E Z (cw E A)) Q .boolean r0 (V0, L0)) : ∀ (V : Nat → Nat → Int32) (L : Nat → Int64) (x1 : Int32), f_X2_readsChild V L x1 = some (r0, V0, L0) → Wm X 3 (IF X E Z (cw E A)) Q 0 [(0, .ref (A 1)), (1, .int x1)] [] (V, L) := by
  intro V L x1 hf
  rw [f_X2_readsChild] at hf
  refine r_ldcS C K dX2_readsChild_0 ?_
  refine r_iload_n C dX2_readsChild_2 1 rfl rfl ?_
  refine p_i2c C dX2_readsChild_3 ?_
  refine s_indexOf C K (Nat.le_of_ble_eq_true rfl) (Nat.le_of_ble_eq_true rfl) (rest := []) (Nat.le_of_ble_eq_true rfl) dX2_readsChild_4 ?_
  refine r_istore_n C dX2_readsChild_7 rfl (Nat.le_of_ble_eq_true rfl) (lv2 := [(2, .int (f_indexOf (i2c x1))), (0, .ref (A 1)), (1, .int x1)]) rfl ?_
  refine r_iload_n C dX2_readsChild_8 0 rfl rfl ?_
  refine r_if_lt C (tgt := 24) dX2_readsChild_9 rfl hf (fun hf => ?_) (fun hf => ?_)
  · refine r_iconst C dX2_readsChild_24 ki_0 ?_
    exact ri_OW hret hf dX2_readsChild_25 rfl
  · refine r_aload_n C dX2_readsChild_12 1 rfl rfl ?_
    refine g_RX2_29_1 C K dX2_readsChild_13 ?_
    refine r_aload_n C dX2_readsChild_16 1 rfl rfl ?_
    refine g_RX2_18_1 C K dX2_readsChild_17 ?_
    refine s_alen C K (cw_a4 E A _ _) (r := 8) (by decide) dX2_readsChild_20 ?_
    refine r_icmp_lt C (tgt := 26) dX2_readsChild_21 rfl hf (fun hf => ?_) (fun hf => ?_)
    · refine r_aload_n C dX2_readsChild_26 1 rfl rfl ?_
      refine g_RX2_18_1 C K dX2_readsChild_27 ?_
      refine r_aload_n C dX2_readsChild_30 1 rfl rfl ?_
      refine g_RX2_29_1 C K dX2_readsChild_31 ?_
      refine r_iload_n C dX2_readsChild_34 0 rfl rfl ?_
      refine s_iast C K (cw_a4 E A _ _) (fun z => cw_s4 E A _ _ _) dX2_readsChild_35 hf (fun V_1 hf => ?_)
      refine r_aload_n C dX2_readsChild_36 1 rfl rfl ?_
      refine r_dup C dX2_readsChild_37 rfl ?_
      refine g_RX2_29_1 C K dX2_readsChild_38 ?_
      refine r_iconst C dX2_readsChild_41 ki_1 ?_
      refine r_iadd C dX2_readsChild_42 ?_
      refine p_RX2_29_1 C K dX2_readsChild_43 hf (fun V_2 hf => ?_)
      refine r_iconst C dX2_readsChild_46 ki_1 ?_
      exact ri_OW hret hf dX2_readsChild_47 rfl
    · refine r_iconst C dX2_readsChild_24 ki_0 ?_
      exact ri_OW hret hf dX2_readsChild_25 rfl
theorem t_X2_readsChild (l : Launch) {E : EvT} {A : Nat → Nat} {V : Nat → Nat → Int32} {L : Nat → Int64} (x1 : Int32) {r0 : Int32} {V0 : Nat → Nat → Int32} {L0 : Nat → Int64} (hq : f_X2_readsChild V L x1 = some (r0, V0, L0)) : KI l yX2_readsChild (.code yX2_readsChild cX2_readsChild 3 (some .boolean) :: wA) rm_X2_readsChild E (cw E A V L) (cw E A V0 L0) [.ref (A 1), .int x1] r0 := by
  refine ent_I (own := RX2) (ty := .boolean) (lv0 := [(0, .ref (A 1)), (1, .int x1)]) (by decide) rfl rfl (Nat.le_of_ble_eq_true rfl) rfl (cw_fst _ _ _ _ _ _) ?_
  intro X Z Q hl C K hret
  exact w_X2_readsChild_0 C K hret V L x1 hq
set_option maxRecDepth 100000 in
theorem w_X2_reads_0 {X : XT} {E : EvT} {Z : Nat → Prop} {Q : State → Prop} {A : Nat → Nat} (C : Cx X (.code yX2_reads cX2_reads 2 (some .boolean)) cX2_reads 2 RX2 rm_X2_reads.frames rm_X2_reads.locals) (K : Ck X E Z) {r0 : Int32} {V0 : Nat → Nat → Int32} {L0 : Nat → Int64} (hret : RI X 2 cX2_reads (IF X E Z (cw E A)) Q .boolean r0 (V0, L0)) : ∀ (V : Nat → Nat → Int32) (L : Nat → Int64) (x1 : Int32), f_X2_reads V L x1 = some (r0, V0, L0) → Wm X 2 (IF X E Z (cw E A)) Q 0 [(0, .ref (A 1)), (1, .int x1)] [] (V, L) := by
  intro V L x1 hf
  rw [f_X2_reads] at hf
  refine r_aload_n C dX2_reads_0 0 rfl rfl ?_
  refine g_RX2_32_1 C K dX2_reads_1 ?_
  refine br_if hf (fun hq hf => ?_) (fun h0 hf => ?_)
  · refine r_tblIn C (off := 28) (tgt := 32) dX2_reads_4 (by rw [hq]; decide) (by rw [hq]; decide) (by rw [hq]; rfl) rfl ?_
    refine r_aload_n C dX2_reads_32 0 rfl rfl ?_
    refine r_iload_n C dX2_reads_33 1 rfl rfl ?_
    refine bd3_e hf (fun r_1 V_2 L_3 hq hf => ?_)
    refine f_callI C K cal_RX2_42 ⟨rfl, rfl, Nat.le_of_ble_eq_true rfl, Nat.le_of_ble_eq_true rfl⟩ (t_X2_readsTens _ x1 hq) (cw_o1 E A _ _) rfl (cw_fst _ _ _ _ _ _) rfl (rest := []) rfl (Nat.le_of_ble_eq_true rfl) dX2_reads_34 ?_
    refine gd_if hf (fun hz hf => ?_)
    exact ri_OW hret hf dX2_reads_37 (isz_nar hz)
  refine br_if hf (fun hq hf => ?_) (fun h1 hf => ?_)
  · refine r_tblIn C (off := 34) (tgt := 38) dX2_reads_4 (by rw [hq]; decide) (by rw [hq]; decide) (by rw [hq]; rfl) rfl ?_
    refine r_aload_n C dX2_reads_38 0 rfl rfl ?_
    refine r_iload_n C dX2_reads_39 1 rfl rfl ?_
    refine bd3_e hf (fun r_4 V_5 L_6 hq hf => ?_)
    refine f_callI C K cal_RX2_45 ⟨rfl, rfl, Nat.le_of_ble_eq_true rfl, Nat.le_of_ble_eq_true rfl⟩ (t_X2_readsOnes _ x1 hq) (cw_o1 E A _ _) rfl (cw_fst _ _ _ _ _ _) rfl (rest := []) rfl (Nat.le_of_ble_eq_true rfl) dX2_reads_40 ?_
    refine gd_if hf (fun hz hf => ?_)
    exact ri_OW hret hf dX2_reads_43 (isz_nar hz)
  refine br_if hf (fun hq hf => ?_) (fun h2 hf => ?_)
  · refine r_tblIn C (off := 40) (tgt := 44) dX2_reads_4 (by rw [hq]; decide) (by rw [hq]; decide) (by rw [hq]; rfl) rfl ?_
    refine r_aload_n C dX2_reads_44 0 rfl rfl ?_
    refine r_iload_n C dX2_reads_45 1 rfl rfl ?_
    refine bd3_e hf (fun r_7 V_8 L_9 hq hf => ?_)
    refine f_callI C K cal_RX2_48 ⟨rfl, rfl, Nat.le_of_ble_eq_true rfl, Nat.le_of_ble_eq_true rfl⟩ (t_X2_readsBetween _ x1 hq) (cw_o1 E A _ _) rfl (cw_fst _ _ _ _ _ _) rfl (rest := []) rfl (Nat.le_of_ble_eq_true rfl) dX2_reads_46 ?_
    refine gd_if hf (fun hz hf => ?_)
    exact ri_OW hret hf dX2_reads_49 (isz_nar hz)
  refine r_tblOut C (tgt := 50) dX2_reads_4 (by have q0 := lv_neT (a := 0) h0 rfl; have q1 := lv_neT (a := 1) h1 rfl; have q2 := lv_neT (a := 2) h2 rfl; omega) rfl ?_
  refine r_aload_n C dX2_reads_50 0 rfl rfl ?_
  refine r_iload_n C dX2_reads_51 1 rfl rfl ?_
  refine bd3_e hf (fun r_10 V_11 L_12 hq hf => ?_)
  refine f_callI C K cal_RX2_51 ⟨rfl, rfl, Nat.le_of_ble_eq_true rfl, Nat.le_of_ble_eq_true rfl⟩ (t_X2_readsChild _ x1 hq) (cw_o1 E A _ _) rfl (cw_fst _ _ _ _ _ _) rfl (rest := []) rfl (Nat.le_of_ble_eq_true rfl) dX2_reads_52 ?_
  refine gd_if hf (fun hz hf => ?_)
  exact ri_OW hret hf dX2_reads_55 (isz_nar hz)
theorem t_X2_reads (l : Launch) {E : EvT} {A : Nat → Nat} {V : Nat → Nat → Int32} {L : Nat → Int64} (x1 : Int32) {r0 : Int32} {V0 : Nat → Nat → Int32} {L0 : Nat → Int64} (hq : f_X2_reads V L x1 = some (r0, V0, L0)) : KI l yX2_reads (.code yX2_reads cX2_reads 2 (some .boolean) :: wA) rm_X2_reads E (cw E A V L) (cw E A V0 L0) [.ref (A 1), .int x1] r0 := by
  refine ent_I (own := RX2) (ty := .boolean) (lv0 := [(0, .ref (A 1)), (1, .int x1)]) (by decide) rfl rfl (Nat.le_of_ble_eq_true rfl) rfl (cw_fst _ _ _ _ _ _) ?_
  intro X Z Q hl C K hret
  exact w_X2_reads_0 C K hret V L x1 hq
set_option maxRecDepth 100000 in
theorem w_X2_firstFault_17 {X : XT} {E : EvT} {Z : Nat → Prop} {Q : State → Prop} {A : Nat → Nat} (C : Cx X (.code yX2_firstFault cX2_firstFault 2 (some .int)) cX2_firstFault 2 RX2 rm_X2_firstFault.frames rm_X2_firstFault.locals) (K : Ck X E Z) {r0 : Int32} {V0 : Nat → Nat → Int32} {L0 : Nat → Int64} (hret : RI X 2 cX2_firstFault (IF X E Z (cw E A)) Q .int r0 (V0, L0)) : ∀ (n : Nat) (V : Nat → Nat → Int32) (L : Nat → Int64) (x1 : Int32), f_X2_firstFault_17 n V L x1 = some (r0, V0, L0) → Wm X 2 (IF X E Z (cw E A)) Q 17 [(0, .ref (A 1)), (1, .int x1)] [] (V, L) := by
  intro n
  induction n with
  | zero =>
    intro V L x1 hf
    exact none_e hf
  | succ n ih =>
    intro V L x1 hf
    rw [f_X2_firstFault_17] at hf
    refine r_iload_n C dX2_firstFault_17 1 rfl rfl ?_
    refine r_aload_n C dX2_firstFault_18 0 rfl rfl ?_
    refine g_RX2_21_1 C K dX2_firstFault_19 ?_
    refine r_icmp_ge C (tgt := 55) dX2_firstFault_22 rfl hf (fun hf => ?_) (fun hf => ?_)
    · refine r_aload_n C dX2_firstFault_55 0 rfl rfl ?_
      refine g_RX2_21_1 C K dX2_firstFault_56 ?_
      exact ri_OW hret hf dX2_firstFault_59 rfl
    · refine r_iload_n C dX2_firstFault_25 1 rfl rfl ?_
      refine r_aload_n C dX2_firstFault_26 0 rfl rfl ?_
      refine g_RX2_9_1 C K dX2_firstFault_27 ?_
      refine s_alen C K (cw_a2 E A _ _) (r := 20) (by decide) dX2_firstFault_30 ?_
      refine r_icmp_ge C (tgt := 55) dX2_firstFault_31 rfl hf (fun hf => ?_) (fun hf => ?_)
      · refine r_aload_n C dX2_firstFault_55 0 rfl rfl ?_
        refine g_RX2_21_1 C K dX2_firstFault_56 ?_
        exact ri_OW hret hf dX2_firstFault_59 rfl
      · refine r_aload_n C dX2_firstFault_34 0 rfl rfl ?_
        refine r_aload_n C dX2_firstFault_35 0 rfl rfl ?_
        refine g_RX2_9_1 C K dX2_firstFault_36 ?_
        refine r_iload_n C dX2_firstFault_39 1 rfl rfl ?_
        refine s_iald C K (cw_a2 E A _ _) dX2_firstFault_40 hf (fun hf => ?_)
        refine bd3_e hf (fun r_1 V_2 L_3 hq hf => ?_)
        refine f_callI C K cal_RX2_38 ⟨rfl, rfl, Nat.le_of_ble_eq_true rfl, Nat.le_of_ble_eq_true rfl⟩ (t_X2_reads _ (V 2 x1.toNatClampNeg) hq) (cw_o1 E A _ _) rfl (cw_fst _ _ _ _ _ _) rfl (rest := []) rfl (Nat.le_of_ble_eq_true rfl) dX2_firstFault_41 ?_
        refine r_if_ne C (tgt := 49) dX2_firstFault_44 rfl hf (fun hf => ?_) (fun hf => ?_)
        · refine r_iinc C dX2_firstFault_49 1 rfl (kn_1 _) (Nat.le_of_ble_eq_true rfl) (lv2 := [(1, .int (x1 + 1)), (0, .ref (A 1))]) rfl ?_
          refine r_goto C (tgt := 17) dX2_firstFault_52 rfl ?_
          exact r_sub [1, 0] rfl (ih V_2 L_3 (x1 + 1) hf)
        · refine r_iload_n C dX2_firstFault_47 1 rfl rfl ?_
          exact ri_OW hret hf dX2_firstFault_48 rfl
set_option maxRecDepth 100000 in
theorem w_X2_firstFault_0 {X : XT} {E : EvT} {Z : Nat → Prop} {Q : State → Prop} {A : Nat → Nat} (C : Cx X (.code yX2_firstFault cX2_firstFault 2 (some .int)) cX2_firstFault 2 RX2 rm_X2_firstFault.frames rm_X2_firstFault.locals) (K : Ck X E Z) {r0 : Int32} {V0 : Nat → Nat → Int32} {L0 : Nat → Int64} (hret : RI X 2 cX2_firstFault (IF X E Z (cw E A)) Q .int r0 (V0, L0)) : ∀ (V : Nat → Nat → Int32) (L : Nat → Int64), f_X2_firstFault V L = some (r0, V0, L0) → Wm X 2 (IF X E Z (cw E A)) Q 0 [(0, .ref (A 1))] [] (V, L) := by
  intro V L hf
  rw [f_X2_firstFault] at hf
  refine r_aload_n C dX2_firstFault_0 0 rfl rfl ?_
  refine r_iconst C dX2_firstFault_1 ki_0 ?_
  refine p_RX2_32_1 C K dX2_firstFault_2 hf (fun V_1 hf => ?_)
  refine r_aload_n C dX2_firstFault_5 0 rfl rfl ?_
  refine r_iconst C dX2_firstFault_6 ki_0 ?_
  refine p_RX2_35_1 C K dX2_firstFault_7 hf (fun V_2 hf => ?_)
  refine r_aload_n C dX2_firstFault_10 0 rfl rfl ?_
  refine r_iconst C dX2_firstFault_11 ki_0 ?_
  refine p_RX2_29_1 C K dX2_firstFault_12 hf (fun V_3 hf => ?_)
  refine r_iconst C dX2_firstFault_15 ki_0 ?_
  refine r_istore_n C dX2_firstFault_16 rfl (Nat.le_of_ble_eq_true rfl) (lv2 := [(1, .int (0 : Int32)), (0, .ref (A 1))]) rfl ?_
  exact r_sub [1, 0] rfl (w_X2_firstFault_17 C K hret 20000 V_3 L (0 : Int32) hf)
theorem t_X2_firstFault (l : Launch) {E : EvT} {A : Nat → Nat} {V : Nat → Nat → Int32} {L : Nat → Int64} {r0 : Int32} {V0 : Nat → Nat → Int32} {L0 : Nat → Int64} (hq : f_X2_firstFault V L = some (r0, V0, L0)) : KI l yX2_firstFault (.code yX2_firstFault cX2_firstFault 2 (some .int) :: wA) rm_X2_firstFault E (cw E A V L) (cw E A V0 L0) [.ref (A 1)] r0 := by
  refine ent_I (own := RX2) (ty := .int) (lv0 := [(0, .ref (A 1))]) (by decide) rfl rfl (Nat.le_of_ble_eq_true rfl) rfl (cw_fst _ _ _ _ _ _) ?_
  intro X Z Q hl C K hret
  exact w_X2_firstFault_0 C K hret V L  hq
set_option maxRecDepth 100000 in
theorem w_X2_isRing_0 {X : XT} {E : EvT} {Z : Nat → Prop} {Q : State → Prop} {A : Nat → Nat} (C : Cx X (.code yX2_isRing cX2_isRing 1 (some .boolean)) cX2_isRing 1 RX2 rm_X2_isRing.frames rm_X2_isRing.locals) (K : Ck X E Z) {r0 : Int32} {V0 : Nat → Nat → Int32} {L0 : Nat → Int64} (hret : RI X 1 cX2_isRing (IF X E Z (cw E A)) Q .boolean r0 (V0, L0)) : ∀ (V : Nat → Nat → Int32) (L : Nat → Int64), f_X2_isRing V L = some (r0, V0, L0) → Wm X 1 (IF X E Z (cw E A)) Q 0 [(0, .ref (A 1))] [] (V, L) := by
  intro V L hf
  rw [f_X2_isRing] at hf
  refine r_aload_n C dX2_isRing_0 0 rfl rfl ?_
  refine bd3_e hf (fun r_1 V_2 L_3 hq hf => ?_)
  refine f_callI C K cal_RX2_25 ⟨rfl, rfl, Nat.le_of_ble_eq_true rfl, Nat.le_of_ble_eq_true rfl⟩ (t_X2_firstFault _ hq) (cw_o1 E A _ _) rfl (cw_fst _ _ _ _ _ _) rfl (rest := []) rfl (Nat.le_of_ble_eq_true rfl) dX2_isRing_1 ?_
  refine r_aload_n C dX2_isRing_4 0 rfl rfl ?_
  refine g_RX2_21_1 C K dX2_isRing_5 ?_
  refine r_icmp_ne C (tgt := 23) dX2_isRing_8 rfl hf (fun hf => ?_) (fun hf => ?_)
  · refine r_iconst C dX2_isRing_23 ki_0 ?_
    exact ri_OW hret hf dX2_isRing_24 rfl
  · refine r_aload_n C dX2_isRing_11 0 rfl rfl ?_
    refine g_RX2_29_1 C K dX2_isRing_12 ?_
    refine r_iconst C dX2_isRing_15 ki_2 ?_
    refine r_icmp_lt C (tgt := 23) dX2_isRing_16 rfl hf (fun hf => ?_) (fun hf => ?_)
    · refine r_iconst C dX2_isRing_23 ki_0 ?_
      exact ri_OW hret hf dX2_isRing_24 rfl
    · refine r_iconst C dX2_isRing_19 ki_1 ?_
      refine r_goto C (tgt := 24) dX2_isRing_20 rfl ?_
      exact ri_OW hret hf dX2_isRing_24 rfl
theorem t_X2_isRing (l : Launch) {E : EvT} {A : Nat → Nat} {V : Nat → Nat → Int32} {L : Nat → Int64} {r0 : Int32} {V0 : Nat → Nat → Int32} {L0 : Nat → Int64} (hq : f_X2_isRing V L = some (r0, V0, L0)) : KI l yX2_isRing (.code yX2_isRing cX2_isRing 1 (some .boolean) :: wA) rm_X2_isRing E (cw E A V L) (cw E A V0 L0) [.ref (A 1)] r0 := by
  refine ent_I (own := RX2) (ty := .boolean) (lv0 := [(0, .ref (A 1))]) (by decide) rfl rfl (Nat.le_of_ble_eq_true rfl) rfl (cw_fst _ _ _ _ _ _) ?_
  intro X Z Q hl C K hret
  exact w_X2_isRing_0 C K hret V L  hq
