set_option maxRecDepth 100000 in
theorem w_X3_setUp_45 {X : XT} {E : EvT} {Z : Nat → Prop} {Q : State → Prop} {A : Nat → Nat} (C : Cx X (.code yX3_setUp cX3_setUp 3 none) cX3_setUp 3 RX3 rm_X3_setUp.frames rm_X3_setUp.locals) (K : Ck X E Z) {V0 : Nat → Nat → Int32} {L0 : Nat → Int64} (hret : RV X 3 cX3_setUp (IF X E Z (cw E A)) Q (V0, L0)) : ∀ (V : Nat → Nat → Int32) (L : Nat → Int64), f_X3_setUp_45 V L = some (V0, L0) → Wm X 3 (IF X E Z (cw E A)) Q 45 [(0, .ref (A 5)), (1, .ref (A 1))] [] (V, L) := by
  intro V L hf
  rw [f_X3_setUp_45] at hf
  refine r_aload_n C dX3_setUp_45 0 rfl rfl ?_
  refine r_aload_n C dX3_setUp_46 1 rfl rfl ?_
  refine g_RX3_53_1 C K dX3_setUp_47 ?_
  refine p_RX3_32_5 C K dX3_setUp_50 hf (fun V_1 hf => ?_)
  refine r_aload_n C dX3_setUp_53 1 rfl rfl ?_
  refine g_RX3_54_1 C K dX3_setUp_54 ?_
  refine r_iconst C dX3_setUp_57 ki_0 ?_
  refine r_aload_n C dX3_setUp_58 0 rfl rfl ?_
  refine g_RX3_18_5 C K dX3_setUp_59 ?_
  refine r_iconst C dX3_setUp_62 ki_0 ?_
  refine r_iconst C dX3_setUp_63 ki_3 ?_
  refine s_copy C K q_m_RX3_55 q_nat q_st_arraycopyName q_in_RJ10 (Nat.le_of_ble_eq_true rfl) (Nat.le_of_ble_eq_true rfl) (cw_a3 E A _ _) (cw_a7 E A _ _) (fun g => cw_s7 E A _ _ g) (by decide) (by decide) (by decide) (by decide) (by decide) dX3_setUp_64 hf (fun V_2 hf => ?_)
  refine r_aload_n C dX3_setUp_67 0 rfl rfl ?_
  refine r_iconst C dX3_setUp_68 ki_0 ?_
  refine p_RX3_61_5 C K dX3_setUp_69 hf (fun V_3 hf => ?_)
  refine r_aload_n C dX3_setUp_72 0 rfl rfl ?_
  refine r_iconst C dX3_setUp_73 ki_0 ?_
  refine p_RX3_35_5 C K dX3_setUp_74 hf (fun V_4 hf => ?_)
  exact rv_OV hret hf dX3_setUp_77
set_option maxRecDepth 100000 in
theorem w_X3_setUp_9 {X : XT} {E : EvT} {Z : Nat → Prop} {Q : State → Prop} {A : Nat → Nat} (C : Cx X (.code yX3_setUp cX3_setUp 3 none) cX3_setUp 3 RX3 rm_X3_setUp.frames rm_X3_setUp.locals) (K : Ck X E Z) {V0 : Nat → Nat → Int32} {L0 : Nat → Int64} (hret : RV X 3 cX3_setUp (IF X E Z (cw E A)) Q (V0, L0)) : ∀ (n : Nat) (V : Nat → Nat → Int32) (L : Nat → Int64) (x2 : Int32), f_X3_setUp_9 n V L x2 = some (V0, L0) → Wm X 3 (IF X E Z (cw E A)) Q 9 [(0, .ref (A 5)), (1, .ref (A 1)), (2, .int x2)] [] (V, L) := by
  intro n
  induction n with
  | zero =>
    intro V L x2 hf
    exact none_e hf
  | succ n ih =>
    intro V L x2 hf
    rw [f_X3_setUp_9] at hf
    refine r_iload_n C dX3_setUp_9 2 rfl rfl ?_
    refine r_aload_n C dX3_setUp_10 1 rfl rfl ?_
    refine g_RX3_41_1 C K dX3_setUp_11 ?_
    refine r_icmp_ge C (tgt := 45) dX3_setUp_14 rfl hf (fun hf => ?_) (fun hf => ?_)
    · exact r_sub [0, 1] rfl (w_X3_setUp_45 C K hret V L hf)
    · refine r_iload_n C dX3_setUp_17 2 rfl rfl ?_
      refine r_aload_n C dX3_setUp_18 1 rfl rfl ?_
      refine g_RX3_46_1 C K dX3_setUp_19 ?_
      refine s_alen C K (cw_a4 E A _ _) (r := 8) (by decide) dX3_setUp_22 ?_
      refine r_icmp_ge C (tgt := 45) dX3_setUp_23 rfl hf (fun hf => ?_) (fun hf => ?_)
      · exact r_sub [0, 1] rfl (w_X3_setUp_45 C K hret V L hf)
      · refine r_aload_n C dX3_setUp_26 0 rfl rfl ?_
        refine g_RX3_12_5 C K dX3_setUp_27 ?_
        refine r_aload_n C dX3_setUp_30 1 rfl rfl ?_
        refine g_RX3_46_1 C K dX3_setUp_31 ?_
        refine r_iload_n C dX3_setUp_34 2 rfl rfl ?_
        refine s_iald C K (cw_a4 E A _ _) dX3_setUp_35 hf (fun hf => ?_)
        refine s_callV C K jc6 cal_RX3_49 ⟨rfl, rfl, Nat.le_of_ble_eq_true rfl, Nat.le_of_ble_eq_true rfl⟩ (t_X0_addBehind _ jc6 (V 4 x2.toNatClampNeg)) rfl (rest := []) rfl (Nat.le_of_ble_eq_true rfl) dX3_setUp_36 ?_
        refine b_V hf (fun V_2 hf => ?_)
        refine r_iinc C dX3_setUp_39 2 rfl (kn_1 _) (Nat.le_of_ble_eq_true rfl) (lv2 := [(2, .int (x2 + 1)), (0, .ref (A 5)), (1, .ref (A 1))]) rfl ?_
        refine r_goto C (tgt := 9) dX3_setUp_42 rfl ?_
        exact r_sub [1, 2, 0] rfl (ih V_2 L (x2 + 1) hf)
set_option maxRecDepth 100000 in
theorem w_X3_setUp_0 {X : XT} {E : EvT} {Z : Nat → Prop} {Q : State → Prop} {A : Nat → Nat} (C : Cx X (.code yX3_setUp cX3_setUp 3 none) cX3_setUp 3 RX3 rm_X3_setUp.frames rm_X3_setUp.locals) (K : Ck X E Z) {V0 : Nat → Nat → Int32} {L0 : Nat → Int64} (hret : RV X 3 cX3_setUp (IF X E Z (cw E A)) Q (V0, L0)) : ∀ (V : Nat → Nat → Int32) (L : Nat → Int64), f_X3_setUp V L = some (V0, L0) → Wm X 3 (IF X E Z (cw E A)) Q 0 [(0, .ref (A 5)), (1, .ref (A 1))] [] (V, L) := by
  intro V L hf
  rw [f_X3_setUp] at hf
  refine r_aload_n C dX3_setUp_0 0 rfl rfl ?_
  refine g_RX3_12_5 C K dX3_setUp_1 ?_
  refine s_callV C K jc6 cal_RX3_38 ⟨rfl, rfl, Nat.le_of_ble_eq_true rfl, Nat.le_of_ble_eq_true rfl⟩ (t_X0_clear _ jc6) rfl (rest := []) rfl (Nat.le_of_ble_eq_true rfl) dX3_setUp_4 ?_
  refine b_V hf (fun V_2 hf => ?_)
  refine r_iconst C dX3_setUp_7 ki_0 ?_
  refine r_istore_n C dX3_setUp_8 rfl (Nat.le_of_ble_eq_true rfl) (lv2 := [(2, .int (0 : Int32)), (0, .ref (A 5)), (1, .ref (A 1))]) rfl ?_
  exact r_sub [1, 2, 0] rfl (w_X3_setUp_9 C K hret 20000 V_2 L (0 : Int32) hf)
theorem t_X3_setUp (l : Launch) {E : EvT} {A : Nat → Nat} {V : Nat → Nat → Int32} {L : Nat → Int64} {V0 : Nat → Nat → Int32} {L0 : Nat → Int64} (hq : f_X3_setUp V L = some (V0, L0)) : KV l yX3_setUp (.code yX3_setUp cX3_setUp 3 none :: wA) rm_X3_setUp E (cw E A V L) (cw E A V0 L0) [.ref (A 5), .ref (A 1)] := by
  refine ent_V (own := RX3) (lv0 := [(0, .ref (A 5)), (1, .ref (A 1))]) (by decide) rfl rfl (Nat.le_of_ble_eq_true rfl) rfl (cw_fst _ _ _ _ _ _) ?_
  intro X Z Q hl C K hret
  exact w_X3_setUp_0 C K hret V L  hq
set_option maxRecDepth 100000 in
theorem w_X3_hasChild_0 {X : XT} {E : EvT} {Z : Nat → Prop} {Q : State → Prop} {A : Nat → Nat} (C : Cx X (.code yX3_hasChild cX3_hasChild 2 (some .boolean)) cX3_hasChild 2 RX3 rm_X3_hasChild.frames rm_X3_hasChild.locals) (K : Ck X E Z) {r0 : Int32} {V : Nat → Nat → Int32} {L : Nat → Int64} (hret : RI X 2 cX3_hasChild (IF X E Z (cw E A)) Q .boolean r0 (V, L)) : ∀ (x1 : Int32), f_X3_hasChild V L x1 = r0 → Wm X 2 (IF X E Z (cw E A)) Q 0 [(0, .ref (A 5)), (1, .int x1)] [] (V, L) := by
  intro x1 hf
  rw [f_X3_hasChild] at hf
  refine r_iload_n C dX3_hasChild_0 1 rfl rfl ?_
  refine r_if_lt C (tgt := 19) dX3_hasChild_1 rfl hf (fun hf => ?_) (fun hf => ?_)
  · refine r_iconst C dX3_hasChild_19 ki_0 ?_
    exact ri_T hret hf dX3_hasChild_20 rfl
  · refine r_iload_n C dX3_hasChild_4 1 rfl rfl ?_
    refine r_aload_n C dX3_hasChild_5 0 rfl rfl ?_
    refine g_RX3_12_5 C K dX3_hasChild_6 ?_
    refine g_RX3_28_6 C K dX3_hasChild_9 ?_
    refine r_icmp_ge C (tgt := 19) dX3_hasChild_12 rfl hf (fun hf => ?_) (fun hf => ?_)
    · refine r_iconst C dX3_hasChild_19 ki_0 ?_
      exact ri_T hret hf dX3_hasChild_20 rfl
    · refine r_iconst C dX3_hasChild_15 ki_1 ?_
      refine r_goto C (tgt := 20) dX3_hasChild_16 rfl ?_
      exact ri_T hret hf dX3_hasChild_20 rfl
theorem t_X3_hasChild (l : Launch) {E : EvT} {A : Nat → Nat} {V : Nat → Nat → Int32} {L : Nat → Int64} (x1 : Int32) : KI l yX3_hasChild (.code yX3_hasChild cX3_hasChild 2 (some .boolean) :: wA) rm_X3_hasChild E (cw E A V L) (cw E A V L) [.ref (A 5), .int x1] (f_X3_hasChild V L x1) := by
  refine ent_I (own := RX3) (ty := .boolean) (lv0 := [(0, .ref (A 5)), (1, .int x1)]) (by decide) rfl rfl (Nat.le_of_ble_eq_true rfl) rfl (cw_fst _ _ _ _ _ _) ?_
  intro X Z Q hl C K hret
  exact w_X3_hasChild_0 C K hret  x1 rfl
set_option maxRecDepth 100000 in
theorem w_X3_hasVerse_0 {X : XT} {E : EvT} {Z : Nat → Prop} {Q : State → Prop} {A : Nat → Nat} (C : Cx X (.code yX3_hasVerse cX3_hasVerse 2 (some .boolean)) cX3_hasVerse 2 RX3 rm_X3_hasVerse.frames rm_X3_hasVerse.locals) (K : Ck X E Z) {r0 : Int32} {V : Nat → Nat → Int32} {L : Nat → Int64} (hret : RI X 2 cX3_hasVerse (IF X E Z (cw E A)) Q .boolean r0 (V, L)) : ∀ (x1 : Int32), f_X3_hasVerse V L x1 = r0 → Wm X 2 (IF X E Z (cw E A)) Q 0 [(0, .ref (A 5)), (1, .int x1)] [] (V, L) := by
  intro x1 hf
  rw [f_X3_hasVerse] at hf
  refine r_iload_n C dX3_hasVerse_0 1 rfl rfl ?_
  refine r_if_lt C (tgt := 25) dX3_hasVerse_1 rfl hf (fun hf => ?_) (fun hf => ?_)
  · refine r_iconst C dX3_hasVerse_25 ki_0 ?_
    exact ri_T hret hf dX3_hasVerse_26 rfl
  · refine r_iload_n C dX3_hasVerse_4 1 rfl rfl ?_
    refine r_aload_n C dX3_hasVerse_5 0 rfl rfl ?_
    refine g_RX3_32_5 C K dX3_hasVerse_6 ?_
    refine r_icmp_ge C (tgt := 25) dX3_hasVerse_9 rfl hf (fun hf => ?_) (fun hf => ?_)
    · refine r_iconst C dX3_hasVerse_25 ki_0 ?_
      exact ri_T hret hf dX3_hasVerse_26 rfl
    · refine r_iload_n C dX3_hasVerse_12 1 rfl rfl ?_
      refine r_aload_n C dX3_hasVerse_13 0 rfl rfl ?_
      refine g_RX3_18_5 C K dX3_hasVerse_14 ?_
      refine s_alen C K (cw_a7 E A _ _) (r := 3) (by decide) dX3_hasVerse_17 ?_
      refine r_icmp_ge C (tgt := 25) dX3_hasVerse_18 rfl hf (fun hf => ?_) (fun hf => ?_)
      · refine r_iconst C dX3_hasVerse_25 ki_0 ?_
        exact ri_T hret hf dX3_hasVerse_26 rfl
      · refine r_iconst C dX3_hasVerse_21 ki_1 ?_
        refine r_goto C (tgt := 26) dX3_hasVerse_22 rfl ?_
        exact ri_T hret hf dX3_hasVerse_26 rfl
theorem t_X3_hasVerse (l : Launch) {E : EvT} {A : Nat → Nat} {V : Nat → Nat → Int32} {L : Nat → Int64} (x1 : Int32) : KI l yX3_hasVerse (.code yX3_hasVerse cX3_hasVerse 2 (some .boolean) :: wA) rm_X3_hasVerse E (cw E A V L) (cw E A V L) [.ref (A 5), .int x1] (f_X3_hasVerse V L x1) := by
  refine ent_I (own := RX3) (ty := .boolean) (lv0 := [(0, .ref (A 5)), (1, .int x1)]) (by decide) rfl rfl (Nat.le_of_ble_eq_true rfl) rfl (cw_fst _ _ _ _ _ _) ?_
  intro X Z Q hl C K hret
  exact w_X3_hasVerse_0 C K hret  x1 rfl
set_option maxRecDepth 100000 in
theorem w_X3_hasRing_0 {X : XT} {E : EvT} {Z : Nat → Prop} {Q : State → Prop} {A : Nat → Nat} (C : Cx X (.code yX3_hasRing cX3_hasRing 1 (some .boolean)) cX3_hasRing 1 RX3 rm_X3_hasRing.frames rm_X3_hasRing.locals) (K : Ck X E Z) {r0 : Int32} {V : Nat → Nat → Int32} {L : Nat → Int64} (hret : RI X 1 cX3_hasRing (IF X E Z (cw E A)) Q .boolean r0 (V, L)) : f_X3_hasRing V L = r0 → Wm X 1 (IF X E Z (cw E A)) Q 0 [(0, .ref (A 5))] [] (V, L) := by
  intro  hf
  rw [f_X3_hasRing] at hf
  refine r_aload_n C dX3_hasRing_0 0 rfl rfl ?_
  refine g_RX3_12_5 C K dX3_hasRing_1 ?_
  refine g_RX3_28_6 C K dX3_hasRing_4 ?_
  refine r_if_le C (tgt := 14) dX3_hasRing_7 rfl hf (fun hf => ?_) (fun hf => ?_)
  · refine r_iconst C dX3_hasRing_14 ki_0 ?_
    exact ri_T hret hf dX3_hasRing_15 rfl
  · refine r_iconst C dX3_hasRing_10 ki_1 ?_
    refine r_goto C (tgt := 15) dX3_hasRing_11 rfl ?_
    exact ri_T hret hf dX3_hasRing_15 rfl
theorem t_X3_hasRing (l : Launch) {E : EvT} {A : Nat → Nat} {V : Nat → Nat → Int32} {L : Nat → Int64} : KI l yX3_hasRing (.code yX3_hasRing cX3_hasRing 1 (some .boolean) :: wA) rm_X3_hasRing E (cw E A V L) (cw E A V L) [.ref (A 5)] (f_X3_hasRing V L) := by
  refine ent_I (own := RX3) (ty := .boolean) (lv0 := [(0, .ref (A 5))]) (by decide) rfl rfl (Nat.le_of_ble_eq_true rfl) rfl (cw_fst _ _ _ _ _ _) ?_
  intro X Z Q hl C K hret
  exact w_X3_hasRing_0 C K hret   rfl
set_option maxRecDepth 100000 in
theorem w_X3_keepSeen_0 {X : XT} {E : EvT} {Z : Nat → Prop} {Q : State → Prop} {A : Nat → Nat} (C : Cx X (.code yX3_keepSeen cX3_keepSeen 3 (some .boolean)) cX3_keepSeen 3 RX3 rm_X3_keepSeen.frames rm_X3_keepSeen.locals) (K : Ck X E Z) {r0 : Int32} {V0 : Nat → Nat → Int32} {L0 : Nat → Int64} (hret : RI X 3 cX3_keepSeen (IF X E Z (cw E A)) Q .boolean r0 (V0, L0)) : ∀ (V : Nat → Nat → Int32) (L : Nat → Int64) (x1 : Int32) (x2 : Int32), f_X3_keepSeen V L x1 x2 = some (r0, V0, L0) → Wm X 3 (IF X E Z (cw E A)) Q 0 [(0, .ref (A 5)), (1, .int x1), (2, .int x2)] [] (V, L) := by
  intro V L x1 x2 hf
  rw [f_X3_keepSeen] at hf
  refine r_aload_n C dX3_keepSeen_0 0 rfl rfl ?_
  refine g_RX3_35_5 C K dX3_keepSeen_1 ?_
  refine r_if_lt C (tgt := 16) dX3_keepSeen_4 rfl hf (fun hf => ?_) (fun hf => ?_)
  · refine r_iconst C dX3_keepSeen_16 ki_0 ?_
    exact ri_OW hret hf dX3_keepSeen_17 rfl
  · refine r_aload_n C dX3_keepSeen_7 0 rfl rfl ?_
    refine g_RX3_35_5 C K dX3_keepSeen_8 ?_
    refine r_bipush C dX3_keepSeen_11 kb_6 ?_
    refine r_icmp_lt C (tgt := 18) dX3_keepSeen_13 rfl hf (fun hf => ?_) (fun hf => ?_)
    · refine r_aload_n C dX3_keepSeen_18 0 rfl rfl ?_
      refine g_RX3_22_5 C K dX3_keepSeen_19 ?_
      refine r_aload_n C dX3_keepSeen_22 0 rfl rfl ?_
      refine g_RX3_35_5 C K dX3_keepSeen_23 ?_
      refine r_iload_n C dX3_keepSeen_26 1 rfl rfl ?_
      refine s_iast C K (cw_a8 E A _ _) (fun z => cw_s8 E A _ _ _) dX3_keepSeen_27 hf (fun V_1 hf => ?_)
      refine r_aload_n C dX3_keepSeen_28 0 rfl rfl ?_
      refine g_RX3_25_5 C K dX3_keepSeen_29 ?_
      refine r_aload_n C dX3_keepSeen_32 0 rfl rfl ?_
      refine g_RX3_35_5 C K dX3_keepSeen_33 ?_
      refine r_iload_n C dX3_keepSeen_36 2 rfl rfl ?_
      refine s_iast C K (cw_a9 E A _ _) (fun z => cw_s9 E A _ _ _) dX3_keepSeen_37 hf (fun V_2 hf => ?_)
      refine r_aload_n C dX3_keepSeen_38 0 rfl rfl ?_
      refine r_dup C dX3_keepSeen_39 rfl ?_
      refine g_RX3_35_5 C K dX3_keepSeen_40 ?_
      refine r_iconst C dX3_keepSeen_43 ki_1 ?_
      refine r_iadd C dX3_keepSeen_44 ?_
      refine p_RX3_35_5 C K dX3_keepSeen_45 hf (fun V_3 hf => ?_)
      refine r_iconst C dX3_keepSeen_48 ki_1 ?_
      exact ri_OW hret hf dX3_keepSeen_49 rfl
    · refine r_iconst C dX3_keepSeen_16 ki_0 ?_
      exact ri_OW hret hf dX3_keepSeen_17 rfl
theorem t_X3_keepSeen (l : Launch) {E : EvT} {A : Nat → Nat} {V : Nat → Nat → Int32} {L : Nat → Int64} (x1 : Int32) (x2 : Int32) {r0 : Int32} {V0 : Nat → Nat → Int32} {L0 : Nat → Int64} (hq : f_X3_keepSeen V L x1 x2 = some (r0, V0, L0)) : KI l yX3_keepSeen (.code yX3_keepSeen cX3_keepSeen 3 (some .boolean) :: wA) rm_X3_keepSeen E (cw E A V L) (cw E A V0 L0) [.ref (A 5), .int x1, .int x2] r0 := by
  refine ent_I (own := RX3) (ty := .boolean) (lv0 := [(0, .ref (A 5)), (1, .int x1), (2, .int x2)]) (by decide) rfl rfl (Nat.le_of_ble_eq_true rfl) rfl (cw_fst _ _ _ _ _ _) ?_
  intro X Z Q hl C K hret
  exact w_X3_keepSeen_0 C K hret V L x1 x2 hq
set_option maxRecDepth 100000 in
theorem w_X3_takeAll_10_5_0 {X : XT} {E : EvT} {Z : Nat → Prop} {Q : State → Prop} {A : Nat → Nat} (C : Cx X (.code yX3_takeAll cX3_takeAll 2 none) cX3_takeAll 2 RX3 rm_X3_takeAll_10_5.frames rm_X3_takeAll_10_5.locals) (K : Ck X E Z) {V0 : Nat → Nat → Int32} {L0 : Nat → Int64} (hret : RV X 2 cX3_takeAll (IF X E Z (cw E A)) Q (V0, L0)) : ∀ (V : Nat → Nat → Int32) (L : Nat → Int64), f_X3_takeAll_10_5 V L = some (V0, L0) → Wm X 2 (IF X E Z (cw E A)) Q 0 [(0, .ref (A 10)), (1, .ref (A 5))] [] (V, L) := by
  intro V L hf
  rw [f_X3_takeAll_10_5] at hf
  refine r_aload_n C dX3_takeAll_0 0 rfl rfl ?_
  refine g_RX3_12_10 C K dX3_takeAll_1 ?_
  refine r_aload_n C dX3_takeAll_4 1 rfl rfl ?_
  refine g_RX3_12_5 C K dX3_takeAll_5 ?_
  refine bd1_e hf (fun c_1 hq hf => ?_)
  refine s_callV C K jc11 cal_RX3_64 ⟨rfl, rfl, Nat.le_of_ble_eq_true rfl, Nat.le_of_ble_eq_true rfl⟩ (t_X0_takeAll _ jc11 jc6 (by decide) hq) rfl (rest := []) rfl (Nat.le_of_ble_eq_true rfl) dX3_takeAll_8 ?_
  refine b_V hf (fun V_2 hf => ?_)
  refine r_aload_n C dX3_takeAll_11 0 rfl rfl ?_
  refine r_aload_n C dX3_takeAll_12 1 rfl rfl ?_
  refine g_RX3_32_5 C K dX3_takeAll_13 ?_
  refine p_RX3_32_10 C K dX3_takeAll_16 hf (fun V_3 hf => ?_)
  refine r_aload_n C dX3_takeAll_19 1 rfl rfl ?_
  refine g_RX3_18_5 C K dX3_takeAll_20 ?_
  refine r_iconst C dX3_takeAll_23 ki_0 ?_
  refine r_aload_n C dX3_takeAll_24 0 rfl rfl ?_
  refine g_RX3_18_10 C K dX3_takeAll_25 ?_
  refine r_iconst C dX3_takeAll_28 ki_0 ?_
  refine r_iconst C dX3_takeAll_29 ki_3 ?_
  refine s_copy C K q_m_RX3_55 q_nat q_st_arraycopyName q_in_RJ10 (Nat.le_of_ble_eq_true rfl) (Nat.le_of_ble_eq_true rfl) (cw_a7 E A _ _) (cw_a12 E A _ _) (fun g => cw_s12 E A _ _ g) (by decide) (by decide) (by decide) (by decide) (by decide) dX3_takeAll_30 hf (fun V_4 hf => ?_)
  refine r_aload_n C dX3_takeAll_33 0 rfl rfl ?_
  refine r_aload_n C dX3_takeAll_34 1 rfl rfl ?_
  refine g_RX3_61_5 C K dX3_takeAll_35 ?_
  refine p_RX3_61_10 C K dX3_takeAll_38 hf (fun V_5 hf => ?_)
  refine r_aload_n C dX3_takeAll_41 0 rfl rfl ?_
  refine r_aload_n C dX3_takeAll_42 1 rfl rfl ?_
  refine g_RX3_35_5 C K dX3_takeAll_43 ?_
  refine p_RX3_35_10 C K dX3_takeAll_46 hf (fun V_6 hf => ?_)
  refine r_aload_n C dX3_takeAll_49 1 rfl rfl ?_
  refine g_RX3_22_5 C K dX3_takeAll_50 ?_
  refine r_iconst C dX3_takeAll_53 ki_0 ?_
  refine r_aload_n C dX3_takeAll_54 0 rfl rfl ?_
  refine g_RX3_22_10 C K dX3_takeAll_55 ?_
  refine r_iconst C dX3_takeAll_58 ki_0 ?_
  refine r_bipush C dX3_takeAll_59 kb_6 ?_
  refine s_copy C K q_m_RX3_55 q_nat q_st_arraycopyName q_in_RJ10 (Nat.le_of_ble_eq_true rfl) (Nat.le_of_ble_eq_true rfl) (cw_a8 E A _ _) (cw_a13 E A _ _) (fun g => cw_s13 E A _ _ g) (by decide) (by decide) (by decide) (by decide) (by decide) dX3_takeAll_61 hf (fun V_7 hf => ?_)
  refine r_aload_n C dX3_takeAll_64 1 rfl rfl ?_
  refine g_RX3_25_5 C K dX3_takeAll_65 ?_
  refine r_iconst C dX3_takeAll_68 ki_0 ?_
  refine r_aload_n C dX3_takeAll_69 0 rfl rfl ?_
  refine g_RX3_25_10 C K dX3_takeAll_70 ?_
  refine r_iconst C dX3_takeAll_73 ki_0 ?_
  refine r_bipush C dX3_takeAll_74 kb_6 ?_
  refine s_copy C K q_m_RX3_55 q_nat q_st_arraycopyName q_in_RJ10 (Nat.le_of_ble_eq_true rfl) (Nat.le_of_ble_eq_true rfl) (cw_a9 E A _ _) (cw_a14 E A _ _) (fun g => cw_s14 E A _ _ g) (by decide) (by decide) (by decide) (by decide) (by decide) dX3_takeAll_76 hf (fun V_8 hf => ?_)
  exact rv_OV hret hf dX3_takeAll_79
theorem t_X3_takeAll_10_5 (l : Launch) {E : EvT} {A : Nat → Nat} {V : Nat → Nat → Int32} {L : Nat → Int64} {V0 : Nat → Nat → Int32} {L0 : Nat → Int64} (hq : f_X3_takeAll_10_5 V L = some (V0, L0)) : KV l yX3_takeAll (.code yX3_takeAll cX3_takeAll 2 none :: wA) rm_X3_takeAll_10_5 E (cw E A V L) (cw E A V0 L0) [.ref (A 10), .ref (A 5)] := by
  refine ent_V (own := RX3) (lv0 := [(0, .ref (A 10)), (1, .ref (A 5))]) (by decide) rfl rfl (Nat.le_of_ble_eq_true rfl) rfl (cw_fst _ _ _ _ _ _) ?_
  intro X Z Q hl C K hret
  exact w_X3_takeAll_10_5_0 C K hret V L  hq
set_option maxRecDepth 100000 in
theorem w_X3_takeAll_5_10_0 {X : XT} {E : EvT} {Z : Nat → Prop} {Q : State → Prop} {A : Nat → Nat} (C : Cx X (.code yX3_takeAll cX3_takeAll 2 none) cX3_takeAll 2 RX3 rm_X3_takeAll_5_10.frames rm_X3_takeAll_5_10.locals) (K : Ck X E Z) {V0 : Nat → Nat → Int32} {L0 : Nat → Int64} (hret : RV X 2 cX3_takeAll (IF X E Z (cw E A)) Q (V0, L0)) : ∀ (V : Nat → Nat → Int32) (L : Nat → Int64), f_X3_takeAll_5_10 V L = some (V0, L0) → Wm X 2 (IF X E Z (cw E A)) Q 0 [(0, .ref (A 5)), (1, .ref (A 10))] [] (V, L) := by
  intro V L hf
  rw [f_X3_takeAll_5_10] at hf
  refine r_aload_n C dX3_takeAll_0 0 rfl rfl ?_
  refine g_RX3_12_5 C K dX3_takeAll_1 ?_
  refine r_aload_n C dX3_takeAll_4 1 rfl rfl ?_
  refine g_RX3_12_10 C K dX3_takeAll_5 ?_
  refine bd1_e hf (fun c_1 hq hf => ?_)
  refine s_callV C K jc6 cal_RX3_64 ⟨rfl, rfl, Nat.le_of_ble_eq_true rfl, Nat.le_of_ble_eq_true rfl⟩ (t_X0_takeAll _ jc6 jc11 (by decide) hq) rfl (rest := []) rfl (Nat.le_of_ble_eq_true rfl) dX3_takeAll_8 ?_
  refine b_V hf (fun V_2 hf => ?_)
  refine r_aload_n C dX3_takeAll_11 0 rfl rfl ?_
  refine r_aload_n C dX3_takeAll_12 1 rfl rfl ?_
  refine g_RX3_32_10 C K dX3_takeAll_13 ?_
  refine p_RX3_32_5 C K dX3_takeAll_16 hf (fun V_3 hf => ?_)
  refine r_aload_n C dX3_takeAll_19 1 rfl rfl ?_
  refine g_RX3_18_10 C K dX3_takeAll_20 ?_
  refine r_iconst C dX3_takeAll_23 ki_0 ?_
  refine r_aload_n C dX3_takeAll_24 0 rfl rfl ?_
  refine g_RX3_18_5 C K dX3_takeAll_25 ?_
  refine r_iconst C dX3_takeAll_28 ki_0 ?_
  refine r_iconst C dX3_takeAll_29 ki_3 ?_
  refine s_copy C K q_m_RX3_55 q_nat q_st_arraycopyName q_in_RJ10 (Nat.le_of_ble_eq_true rfl) (Nat.le_of_ble_eq_true rfl) (cw_a12 E A _ _) (cw_a7 E A _ _) (fun g => cw_s7 E A _ _ g) (by decide) (by decide) (by decide) (by decide) (by decide) dX3_takeAll_30 hf (fun V_4 hf => ?_)
  refine r_aload_n C dX3_takeAll_33 0 rfl rfl ?_
  refine r_aload_n C dX3_takeAll_34 1 rfl rfl ?_
  refine g_RX3_61_10 C K dX3_takeAll_35 ?_
  refine p_RX3_61_5 C K dX3_takeAll_38 hf (fun V_5 hf => ?_)
  refine r_aload_n C dX3_takeAll_41 0 rfl rfl ?_
  refine r_aload_n C dX3_takeAll_42 1 rfl rfl ?_
  refine g_RX3_35_10 C K dX3_takeAll_43 ?_
  refine p_RX3_35_5 C K dX3_takeAll_46 hf (fun V_6 hf => ?_)
  refine r_aload_n C dX3_takeAll_49 1 rfl rfl ?_
  refine g_RX3_22_10 C K dX3_takeAll_50 ?_
  refine r_iconst C dX3_takeAll_53 ki_0 ?_
  refine r_aload_n C dX3_takeAll_54 0 rfl rfl ?_
  refine g_RX3_22_5 C K dX3_takeAll_55 ?_
  refine r_iconst C dX3_takeAll_58 ki_0 ?_
  refine r_bipush C dX3_takeAll_59 kb_6 ?_
  refine s_copy C K q_m_RX3_55 q_nat q_st_arraycopyName q_in_RJ10 (Nat.le_of_ble_eq_true rfl) (Nat.le_of_ble_eq_true rfl) (cw_a13 E A _ _) (cw_a8 E A _ _) (fun g => cw_s8 E A _ _ g) (by decide) (by decide) (by decide) (by decide) (by decide) dX3_takeAll_61 hf (fun V_7 hf => ?_)
  refine r_aload_n C dX3_takeAll_64 1 rfl rfl ?_
  refine g_RX3_25_10 C K dX3_takeAll_65 ?_
  refine r_iconst C dX3_takeAll_68 ki_0 ?_
  refine r_aload_n C dX3_takeAll_69 0 rfl rfl ?_
  refine g_RX3_25_5 C K dX3_takeAll_70 ?_
  refine r_iconst C dX3_takeAll_73 ki_0 ?_
  refine r_bipush C dX3_takeAll_74 kb_6 ?_
  refine s_copy C K q_m_RX3_55 q_nat q_st_arraycopyName q_in_RJ10 (Nat.le_of_ble_eq_true rfl) (Nat.le_of_ble_eq_true rfl) (cw_a14 E A _ _) (cw_a9 E A _ _) (fun g => cw_s9 E A _ _ g) (by decide) (by decide) (by decide) (by decide) (by decide) dX3_takeAll_76 hf (fun V_8 hf => ?_)
  exact rv_OV hret hf dX3_takeAll_79
theorem t_X3_takeAll_5_10 (l : Launch) {E : EvT} {A : Nat → Nat} {V : Nat → Nat → Int32} {L : Nat → Int64} {V0 : Nat → Nat → Int32} {L0 : Nat → Int64} (hq : f_X3_takeAll_5_10 V L = some (V0, L0)) : KV l yX3_takeAll (.code yX3_takeAll cX3_takeAll 2 none :: wA) rm_X3_takeAll_5_10 E (cw E A V L) (cw E A V0 L0) [.ref (A 5), .ref (A 10)] := by
  refine ent_V (own := RX3) (lv0 := [(0, .ref (A 5)), (1, .ref (A 10))]) (by decide) rfl rfl (Nat.le_of_ble_eq_true rfl) rfl (cw_fst _ _ _ _ _ _) ?_
  intro X Z Q hl C K hret
  exact w_X3_takeAll_5_10_0 C K hret V L  hq
