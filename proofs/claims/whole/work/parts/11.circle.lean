set_option maxRecDepth 100000 in
theorem w_X0_clear_0 {X : XT} {E : EvT} {Z : Nat → Prop} {Q : State → Prop} {A : Nat → Nat} {V : Nat → Nat → Int32} {L : Nat → Int64} {j : Nat} (hj : isCirc j) (C : Cx X (.code yX0_clear cX0_clear 1 none) cX0_clear 1 RX0 rm_X0_clear.frames rm_X0_clear.locals) (K : Ck X E Z) {c0 : Nat → Int32} (hret : RV X 1 cX0_clear (IC X E Z A V L j) Q c0) : ∀ (c : Nat → Int32), f_X0_clear c = c0 → Wm X 1 (IC X E Z A V L j) Q 0 [(0, .ref (A j))] [] c := by
  intro c hf
  rw [f_X0_clear] at hf
  refine r_aload_n C dX0_clear_0 0 rfl rfl ?_
  refine r_iconst C dX0_clear_1 ki_0 ?_
  refine pC_RX0_9 hj C K dX0_clear_2 hf (fun c_1 hf => ?_)
  refine r_aload_n C dX0_clear_5 0 rfl rfl ?_
  refine r_iconst C dX0_clear_6 ki_0 ?_
  refine pC_RX0_15 hj C K dX0_clear_7 hf (fun c_2 hf => ?_)
  refine r_aload_n C dX0_clear_10 0 rfl rfl ?_
  refine r_iconst C dX0_clear_11 ki_0 ?_
  refine pC_RX0_18 hj C K dX0_clear_12 hf (fun c_3 hf => ?_)
  refine r_aload_n C dX0_clear_15 0 rfl rfl ?_
  refine r_iconst C dX0_clear_16 ki_0 ?_
  refine pC_RX0_21 hj C K dX0_clear_17 hf (fun c_4 hf => ?_)
  refine r_aload_n C dX0_clear_20 0 rfl rfl ?_
  refine r_iconst C dX0_clear_21 ki_0 ?_
  refine pC_RX0_24 hj C K dX0_clear_22 hf (fun c_5 hf => ?_)
  refine r_aload_n C dX0_clear_25 0 rfl rfl ?_
  refine r_iconst C dX0_clear_26 ki_0 ?_
  refine pC_RX0_27 hj C K dX0_clear_27 hf (fun c_6 hf => ?_)
  refine r_aload_n C dX0_clear_30 0 rfl rfl ?_
  refine r_iconst C dX0_clear_31 ki_0 ?_
  refine pC_RX0_30 hj C K dX0_clear_32 hf (fun c_7 hf => ?_)
  refine r_aload_n C dX0_clear_35 0 rfl rfl ?_
  refine r_iconst C dX0_clear_36 ki_0 ?_
  refine pC_RX0_33 hj C K dX0_clear_37 hf (fun c_8 hf => ?_)
  refine r_aload_n C dX0_clear_40 0 rfl rfl ?_
  refine r_iconst C dX0_clear_41 ki_1 ?_
  refine pC_RX0_36 hj rfl C K dX0_clear_42 hf (fun c_9 hf => ?_)
  exact rv_TW hret hf dX0_clear_45
theorem t_X0_clear (l : Launch) {E : EvT} {A : Nat → Nat} {V : Nat → Nat → Int32} {L : Nat → Int64} {j : Nat} (hj : isCirc j) {c : Nat → Int32} : KV l yX0_clear (.code yX0_clear cX0_clear 1 none :: wA) rm_X0_clear E (cw E A (setc V j c) L) (cw E A (setc V j (f_X0_clear c)) L) [.ref (A j)] := by
  refine ent_V (own := RX0) (lv0 := [(0, .ref (A j))]) (by decide) rfl rfl (Nat.le_of_ble_eq_true rfl) rfl (cw_fst _ _ _ _ _ _) ?_
  intro X Z Q hl C K hret
  exact w_X0_clear_0 hj C K hret c  rfl
set_option maxRecDepth 100000 in
theorem w_X0_become_113 {X : XT} {E : EvT} {Z : Nat → Prop} {Q : State → Prop} {A : Nat → Nat} {V : Nat → Nat → Int32} {L : Nat → Int64} {j : Nat} (hj : isCirc j) (C : Cx X (.code yX0_become cX0_become 4 none) cX0_become 4 RX0 rm_X0_become.frames rm_X0_become.locals) (K : Ck X E Z) {c0 : Nat → Int32} (hret : RV X 4 cX0_become (IC X E Z A V L j) Q c0) : ∀ (c : Nat → Int32) (x3 : Int32), f_X0_become_113 c x3 = c0 → Wm X 4 (IC X E Z A V L j) Q 113 [(0, .ref (A j)), (3, .int x3)] [] c := by
  intro c x3 hf
  rw [f_X0_become_113] at hf
  refine r_aload_n C dX0_become_113 0 rfl rfl ?_
  refine r_dup C dX0_become_114 rfl ?_
  refine gC_RX0_30 hj C K dX0_become_115 ?_
  refine r_iload_n C dX0_become_118 1 rfl rfl ?_
  refine r_iconst C dX0_become_119 ki_m1 ?_
  refine r_ixor C dX0_become_120 ?_
  refine r_iand C dX0_become_121 ?_
  refine pC_RX0_30 hj C K dX0_become_122 hf (fun c_1 hf => ?_)
  exact rv_TW hret hf dX0_become_125
set_option maxRecDepth 100000 in
theorem w_X0_become_87 {X : XT} {E : EvT} {Z : Nat → Prop} {Q : State → Prop} {A : Nat → Nat} {V : Nat → Nat → Int32} {L : Nat → Int64} {j : Nat} (hj : isCirc j) (C : Cx X (.code yX0_become cX0_become 4 none) cX0_become 4 RX0 rm_X0_become.frames rm_X0_become.locals) (K : Ck X E Z) {c0 : Nat → Int32} (hret : RV X 4 cX0_become (IC X E Z A V L j) Q c0) : ∀ (c : Nat → Int32) (x2 : Int32) (x3 : Int32), f_X0_become_87 c x2 x3 = c0 → Wm X 4 (IC X E Z A V L j) Q 87 [(0, .ref (A j)), (2, .int x2), (3, .int x3)] [] c := by
  intro c x2 x3 hf
  rw [f_X0_become_87] at hf
  refine r_aload_n C dX0_become_87 0 rfl rfl ?_
  refine r_iload_n C dX0_become_88 1 rfl rfl ?_
  refine r_iconst C dX0_become_89 ki_4 ?_
  refine r_icmp_ne C (tgt := 102) dX0_become_90 rfl hf (fun hf => ?_) (fun hf => ?_)
  · refine r_aload_n C dX0_become_102 0 rfl rfl ?_
    refine gC_RX0_24 hj C K dX0_become_103 ?_
    refine r_iload_n C dX0_become_106 2 rfl rfl ?_
    refine r_iconst C dX0_become_107 ki_m1 ?_
    refine r_ixor C dX0_become_108 ?_
    refine r_iand C dX0_become_109 ?_
    refine pC_RX0_24 hj C K dX0_become_110 hf (fun c_1 hf => ?_)
    exact r_sub [0, 2] rfl (w_X0_become_113 hj C K hret c_1 x3 hf)
  · refine r_aload_n C dX0_become_93 0 rfl rfl ?_
    refine gC_RX0_24 hj C K dX0_become_94 ?_
    refine r_iload_n C dX0_become_97 2 rfl rfl ?_
    refine r_ior C dX0_become_98 ?_
    refine r_goto C (tgt := 110) dX0_become_99 rfl ?_
    refine pC_RX0_24 hj C K dX0_become_110 hf (fun c_2 hf => ?_)
    exact r_sub [0, 2] rfl (w_X0_become_113 hj C K hret c_2 x3 hf)
set_option maxRecDepth 100000 in
theorem w_X0_become_56 {X : XT} {E : EvT} {Z : Nat → Prop} {Q : State → Prop} {A : Nat → Nat} {V : Nat → Nat → Int32} {L : Nat → Int64} {j : Nat} (hj : isCirc j) (C : Cx X (.code yX0_become cX0_become 4 none) cX0_become 4 RX0 rm_X0_become.frames rm_X0_become.locals) (K : Ck X E Z) {c0 : Nat → Int32} (hret : RV X 4 cX0_become (IC X E Z A V L j) Q c0) : ∀ (c : Nat → Int32) (x2 : Int32) (x3 : Int32), f_X0_become_56 c x2 x3 = c0 → Wm X 4 (IC X E Z A V L j) Q 56 [(0, .ref (A j)), (2, .int x2), (3, .int x3)] [] c := by
  intro c x2 x3 hf
  rw [f_X0_become_56] at hf
  refine r_aload_n C dX0_become_56 0 rfl rfl ?_
  refine r_iload_n C dX0_become_57 1 rfl rfl ?_
  refine r_iconst C dX0_become_58 ki_3 ?_
  refine r_icmp_eq C (tgt := 67) dX0_become_59 rfl hf (fun hf => ?_) (fun hf => ?_)
  · refine r_aload_n C dX0_become_67 0 rfl rfl ?_
    refine gC_RX0_21 hj C K dX0_become_68 ?_
    refine r_iload_n C dX0_become_71 2 rfl rfl ?_
    refine r_ior C dX0_become_72 ?_
    refine r_goto C (tgt := 84) dX0_become_73 rfl ?_
    refine pC_RX0_21 hj C K dX0_become_84 hf (fun c_1 hf => ?_)
    exact r_sub [0, 1, 2] rfl (w_X0_become_87 hj C K hret c_1 x2 x3 hf)
  · refine r_iload_n C dX0_become_62 1 rfl rfl ?_
    refine r_iconst C dX0_become_63 ki_4 ?_
    refine r_icmp_ne C (tgt := 76) dX0_become_64 rfl hf (fun hf => ?_) (fun hf => ?_)
    · refine r_aload_n C dX0_become_76 0 rfl rfl ?_
      refine gC_RX0_21 hj C K dX0_become_77 ?_
      refine r_iload_n C dX0_become_80 2 rfl rfl ?_
      refine r_iconst C dX0_become_81 ki_m1 ?_
      refine r_ixor C dX0_become_82 ?_
      refine r_iand C dX0_become_83 ?_
      refine pC_RX0_21 hj C K dX0_become_84 hf (fun c_2 hf => ?_)
      exact r_sub [0, 1, 2] rfl (w_X0_become_87 hj C K hret c_2 x2 x3 hf)
    · refine r_aload_n C dX0_become_67 0 rfl rfl ?_
      refine gC_RX0_21 hj C K dX0_become_68 ?_
      refine r_iload_n C dX0_become_71 2 rfl rfl ?_
      refine r_ior C dX0_become_72 ?_
      refine r_goto C (tgt := 84) dX0_become_73 rfl ?_
      refine pC_RX0_21 hj C K dX0_become_84 hf (fun c_3 hf => ?_)
      exact r_sub [0, 1, 2] rfl (w_X0_become_87 hj C K hret c_3 x2 x3 hf)
set_option maxRecDepth 100000 in
theorem w_X0_become_30 {X : XT} {E : EvT} {Z : Nat → Prop} {Q : State → Prop} {A : Nat → Nat} {V : Nat → Nat → Int32} {L : Nat → Int64} {j : Nat} (hj : isCirc j) (C : Cx X (.code yX0_become cX0_become 4 none) cX0_become 4 RX0 rm_X0_become.frames rm_X0_become.locals) (K : Ck X E Z) {c0 : Nat → Int32} (hret : RV X 4 cX0_become (IC X E Z A V L j) Q c0) : ∀ (c : Nat → Int32) (x2 : Int32) (x3 : Int32), f_X0_become_30 c x2 x3 = c0 → Wm X 4 (IC X E Z A V L j) Q 30 [(0, .ref (A j)), (2, .int x2), (3, .int x3)] [] c := by
  intro c x2 x3 hf
  rw [f_X0_become_30] at hf
  refine r_aload_n C dX0_become_30 0 rfl rfl ?_
  refine r_iload_n C dX0_become_31 1 rfl rfl ?_
  refine r_iconst C dX0_become_32 ki_2 ?_
  refine r_icmp_ne C (tgt := 45) dX0_become_33 rfl hf (fun hf => ?_) (fun hf => ?_)
  · refine r_aload_n C dX0_become_45 0 rfl rfl ?_
    refine gC_RX0_18 hj C K dX0_become_46 ?_
    refine r_iload_n C dX0_become_49 2 rfl rfl ?_
    refine r_iconst C dX0_become_50 ki_m1 ?_
    refine r_ixor C dX0_become_51 ?_
    refine r_iand C dX0_become_52 ?_
    refine pC_RX0_18 hj C K dX0_become_53 hf (fun c_1 hf => ?_)
    exact r_sub [0, 1, 2] rfl (w_X0_become_56 hj C K hret c_1 x2 x3 hf)
  · refine r_aload_n C dX0_become_36 0 rfl rfl ?_
    refine gC_RX0_18 hj C K dX0_become_37 ?_
    refine r_iload_n C dX0_become_40 2 rfl rfl ?_
    refine r_ior C dX0_become_41 ?_
    refine r_goto C (tgt := 53) dX0_become_42 rfl ?_
    refine pC_RX0_18 hj C K dX0_become_53 hf (fun c_2 hf => ?_)
    exact r_sub [0, 1, 2] rfl (w_X0_become_56 hj C K hret c_2 x2 x3 hf)
set_option maxRecDepth 100000 in
theorem w_X0_become_0 {X : XT} {E : EvT} {Z : Nat → Prop} {Q : State → Prop} {A : Nat → Nat} {V : Nat → Nat → Int32} {L : Nat → Int64} {j : Nat} (hj : isCirc j) (C : Cx X (.code yX0_become cX0_become 4 none) cX0_become 4 RX0 rm_X0_become.frames rm_X0_become.locals) (K : Ck X E Z) {c0 : Nat → Int32} (hret : RV X 4 cX0_become (IC X E Z A V L j) Q c0) : ∀ (c : Nat → Int32) (x1 : Int32) (x2 : Int32), f_X0_become c x1 x2 = c0 → Wm X 4 (IC X E Z A V L j) Q 0 [(0, .ref (A j)), (1, .int x1), (2, .int x2)] [] c := by
  intro c x1 x2 hf
  rw [f_X0_become] at hf
  refine r_iconst C dX0_become_0 ki_1 ?_
  refine r_iload_n C dX0_become_1 1 rfl rfl ?_
  refine p_ishl C dX0_become_2 ?_
  refine r_istore_n C dX0_become_3 rfl (Nat.le_of_ble_eq_true rfl) (lv2 := [(3, .int (ishl (1 : Int32) x1)), (0, .ref (A j)), (1, .int x1), (2, .int x2)]) rfl ?_
  refine r_aload_n C dX0_become_4 1 rfl rfl ?_
  refine r_iload_n C dX0_become_5 3 rfl rfl ?_
  refine r_iconst C dX0_become_6 ki_1 ?_
  refine r_icmp_ne C (tgt := 19) dX0_become_7 rfl hf (fun hf => ?_) (fun hf => ?_)
  · refine r_aload_n C dX0_become_19 1 rfl rfl ?_
    refine gC_RX0_15 hj C K dX0_become_20 ?_
    refine r_iload_n C dX0_become_23 0 rfl rfl ?_
    refine r_iconst C dX0_become_24 ki_m1 ?_
    refine r_ixor C dX0_become_25 ?_
    refine r_iand C dX0_become_26 ?_
    refine pC_RX0_15 hj C K dX0_become_27 hf (fun c_1 hf => ?_)
    exact r_sub [1, 3, 0] rfl (w_X0_become_30 hj C K hret c_1 x2 (ishl (1 : Int32) x1) hf)
  · refine r_aload_n C dX0_become_10 1 rfl rfl ?_
    refine gC_RX0_15 hj C K dX0_become_11 ?_
    refine r_iload_n C dX0_become_14 0 rfl rfl ?_
    refine r_ior C dX0_become_15 ?_
    refine r_goto C (tgt := 27) dX0_become_16 rfl ?_
    refine pC_RX0_15 hj C K dX0_become_27 hf (fun c_2 hf => ?_)
    exact r_sub [1, 3, 0] rfl (w_X0_become_30 hj C K hret c_2 x2 (ishl (1 : Int32) x1) hf)
theorem t_X0_become (l : Launch) {E : EvT} {A : Nat → Nat} {V : Nat → Nat → Int32} {L : Nat → Int64} {j : Nat} (hj : isCirc j) {c : Nat → Int32} (x1 : Int32) (x2 : Int32) : KV l yX0_become (.code yX0_become cX0_become 4 none :: wA) rm_X0_become E (cw E A (setc V j c) L) (cw E A (setc V j (f_X0_become c x1 x2)) L) [.ref (A j), .int x1, .int x2] := by
  refine ent_V (own := RX0) (lv0 := [(0, .ref (A j)), (1, .int x1), (2, .int x2)]) (by decide) rfl rfl (Nat.le_of_ble_eq_true rfl) rfl (cw_fst _ _ _ _ _ _) ?_
  intro X Z Q hl C K hret
  exact w_X0_become_0 hj C K hret c x1 x2 rfl
set_option maxRecDepth 100000 in
theorem w_X0_addBehind_0 {X : XT} {E : EvT} {Z : Nat → Prop} {Q : State → Prop} {A : Nat → Nat} {V : Nat → Nat → Int32} {L : Nat → Int64} {j : Nat} (hj : isCirc j) (C : Cx X (.code yX0_addBehind cX0_addBehind 2 none) cX0_addBehind 2 RX0 rm_X0_addBehind.frames rm_X0_addBehind.locals) (K : Ck X E Z) {c0 : Nat → Int32} (hret : RV X 2 cX0_addBehind (IC X E Z A V L j) Q c0) : ∀ (c : Nat → Int32) (x1 : Int32), f_X0_addBehind c x1 = c0 → Wm X 2 (IC X E Z A V L j) Q 0 [(0, .ref (A j)), (1, .int x1)] [] c := by
  intro c x1 hf
  rw [f_X0_addBehind] at hf
  refine r_aload_n C dX0_addBehind_0 0 rfl rfl ?_
  refine r_dup C dX0_addBehind_1 rfl ?_
  refine gC_RX0_27 hj C K dX0_addBehind_2 ?_
  refine r_iconst C dX0_addBehind_5 ki_1 ?_
  refine r_aload_n C dX0_addBehind_6 0 rfl rfl ?_
  refine gC_RX0_9 hj C K dX0_addBehind_7 ?_
  refine p_ishl C dX0_addBehind_10 ?_
  refine r_ior C dX0_addBehind_11 ?_
  refine pC_RX0_27 hj C K dX0_addBehind_12 hf (fun c_1 hf => ?_)
  refine r_aload_n C dX0_addBehind_15 0 rfl rfl ?_
  refine r_aload_n C dX0_addBehind_16 0 rfl rfl ?_
  refine gC_RX0_9 hj C K dX0_addBehind_17 ?_
  refine r_iload_n C dX0_addBehind_20 1 rfl rfl ?_
  refine c_callV C K hj cal_RX0_40 ⟨rfl, rfl, Nat.le_of_ble_eq_true rfl, Nat.le_of_ble_eq_true rfl⟩ (t_X0_become _ hj (c_1 0) x1) rfl (rest := []) rfl (Nat.le_of_ble_eq_true rfl) dX0_addBehind_21 ?_
  refine b_st hf (fun c_2 hf => ?_)
  refine r_aload_n C dX0_addBehind_24 0 rfl rfl ?_
  refine r_dup C dX0_addBehind_25 rfl ?_
  refine gC_RX0_9 hj C K dX0_addBehind_26 ?_
  refine r_iconst C dX0_addBehind_29 ki_1 ?_
  refine r_iadd C dX0_addBehind_30 ?_
  refine pC_RX0_9 hj C K dX0_addBehind_31 hf (fun c_3 hf => ?_)
  exact rv_TW hret hf dX0_addBehind_34
theorem t_X0_addBehind (l : Launch) {E : EvT} {A : Nat → Nat} {V : Nat → Nat → Int32} {L : Nat → Int64} {j : Nat} (hj : isCirc j) {c : Nat → Int32} (x1 : Int32) : KV l yX0_addBehind (.code yX0_addBehind cX0_addBehind 2 none :: wA) rm_X0_addBehind E (cw E A (setc V j c) L) (cw E A (setc V j (f_X0_addBehind c x1)) L) [.ref (A j), .int x1] := by
  refine ent_V (own := RX0) (lv0 := [(0, .ref (A j)), (1, .int x1)]) (by decide) rfl rfl (Nat.le_of_ble_eq_true rfl) rfl (cw_fst _ _ _ _ _ _) ?_
  intro X Z Q hl C K hret
  exact w_X0_addBehind_0 hj C K hret c x1 rfl
set_option maxRecDepth 100000 in
theorem w_X0_kindOf_0 {X : XT} {E : EvT} {Z : Nat → Prop} {Q : State → Prop} {A : Nat → Nat} {V : Nat → Nat → Int32} {L : Nat → Int64} {j : Nat} (hj : isCirc j) (C : Cx X (.code yX0_kindOf cX0_kindOf 3 (some .int)) cX0_kindOf 3 RX0 rm_X0_kindOf.frames rm_X0_kindOf.locals) (K : Ck X E Z) {r0 : Int32} {c : Nat → Int32} (hret : RI X 3 cX0_kindOf (IC X E Z A V L j) Q .int r0 c) : ∀ (x1 : Int32), f_X0_kindOf c x1 = r0 → Wm X 3 (IC X E Z A V L j) Q 0 [(0, .ref (A j)), (1, .int x1)] [] c := by
  intro x1 hf
  rw [f_X0_kindOf] at hf
  refine r_iconst C dX0_kindOf_0 ki_1 ?_
  refine r_iload_n C dX0_kindOf_1 1 rfl rfl ?_
  refine p_ishl C dX0_kindOf_2 ?_
  refine r_istore_n C dX0_kindOf_3 rfl (Nat.le_of_ble_eq_true rfl) (lv2 := [(2, .int (ishl (1 : Int32) x1)), (0, .ref (A j)), (1, .int x1)]) rfl ?_
  refine r_aload_n C dX0_kindOf_4 1 rfl rfl ?_
  refine gC_RX0_15 hj C K dX0_kindOf_5 ?_
  refine r_iload_n C dX0_kindOf_8 0 rfl rfl ?_
  refine r_iand C dX0_kindOf_9 ?_
  refine r_if_eq C (tgt := 15) dX0_kindOf_10 rfl hf (fun hf => ?_) (fun hf => ?_)
  · refine r_aload_n C dX0_kindOf_15 1 rfl rfl ?_
    refine gC_RX0_18 hj C K dX0_kindOf_16 ?_
    refine r_iload_n C dX0_kindOf_19 0 rfl rfl ?_
    refine r_iand C dX0_kindOf_20 ?_
    refine r_if_eq C (tgt := 26) dX0_kindOf_21 rfl hf (fun hf => ?_) (fun hf => ?_)
    · refine r_aload_n C dX0_kindOf_26 1 rfl rfl ?_
      refine gC_RX0_24 hj C K dX0_kindOf_27 ?_
      refine r_iload_n C dX0_kindOf_30 0 rfl rfl ?_
      refine r_iand C dX0_kindOf_31 ?_
      refine r_if_eq C (tgt := 37) dX0_kindOf_32 rfl hf (fun hf => ?_) (fun hf => ?_)
      · refine r_aload_n C dX0_kindOf_37 1 rfl rfl ?_
        refine gC_RX0_21 hj C K dX0_kindOf_38 ?_
        refine r_iload_n C dX0_kindOf_41 0 rfl rfl ?_
        refine r_iand C dX0_kindOf_42 ?_
        refine r_if_eq C (tgt := 50) dX0_kindOf_43 rfl hf (fun hf => ?_) (fun hf => ?_)
        · refine r_iconst C dX0_kindOf_50 ki_0 ?_
          exact ri_T hret hf dX0_kindOf_51 rfl
        · refine r_iconst C dX0_kindOf_46 ki_3 ?_
          refine r_goto C (tgt := 51) dX0_kindOf_47 rfl ?_
          exact ri_T hret hf dX0_kindOf_51 rfl
      · refine r_iconst C dX0_kindOf_35 ki_4 ?_
        exact ri_T hret hf dX0_kindOf_36 rfl
    · refine r_iconst C dX0_kindOf_24 ki_2 ?_
      exact ri_T hret hf dX0_kindOf_25 rfl
  · refine r_iconst C dX0_kindOf_13 ki_1 ?_
    exact ri_T hret hf dX0_kindOf_14 rfl
theorem t_X0_kindOf (l : Launch) {E : EvT} {A : Nat → Nat} {V : Nat → Nat → Int32} {L : Nat → Int64} {j : Nat} (hj : isCirc j) {c : Nat → Int32} (x1 : Int32) : KI l yX0_kindOf (.code yX0_kindOf cX0_kindOf 3 (some .int) :: wA) rm_X0_kindOf E (cw E A (setc V j c) L) (cw E A (setc V j c) L) [.ref (A j), .int x1] (f_X0_kindOf c x1) := by
  refine ent_I (own := RX0) (ty := .int) (lv0 := [(0, .ref (A j)), (1, .int x1)]) (by decide) rfl rfl (Nat.le_of_ble_eq_true rfl) rfl (cw_fst _ _ _ _ _ _) ?_
  intro X Z Q hl C K hret
  exact w_X0_kindOf_0 hj C K hret  x1 rfl
set_option maxRecDepth 100000 in
theorem w_X0_isIn_0 {X : XT} {E : EvT} {Z : Nat → Prop} {Q : State → Prop} {A : Nat → Nat} {V : Nat → Nat → Int32} {L : Nat → Int64} {j : Nat} (hj : isCirc j) (C : Cx X (.code yX0_isIn cX0_isIn 2 (some .boolean)) cX0_isIn 2 RX0 rm_X0_isIn.frames rm_X0_isIn.locals) (K : Ck X E Z) {r0 : Int32} {c : Nat → Int32} (hret : RI X 2 cX0_isIn (IC X E Z A V L j) Q .boolean r0 c) : ∀ (x1 : Int32), f_X0_isIn c x1 = r0 → Wm X 2 (IC X E Z A V L j) Q 0 [(0, .ref (A j)), (1, .int x1)] [] c := by
  intro x1 hf
  rw [f_X0_isIn] at hf
  refine r_aload_n C dX0_isIn_0 0 rfl rfl ?_
  refine gC_RX0_27 hj C K dX0_isIn_1 ?_
  refine r_iload_n C dX0_isIn_4 1 rfl rfl ?_
  refine p_ishr C dX0_isIn_5 ?_
  refine r_iconst C dX0_isIn_6 ki_1 ?_
  refine r_iand C dX0_isIn_7 ?_
  refine r_if_eq C (tgt := 15) dX0_isIn_8 rfl hf (fun hf => ?_) (fun hf => ?_)
  · refine r_iconst C dX0_isIn_15 ki_0 ?_
    exact ri_T hret hf dX0_isIn_16 rfl
  · refine r_iconst C dX0_isIn_11 ki_1 ?_
    refine r_goto C (tgt := 16) dX0_isIn_12 rfl ?_
    exact ri_T hret hf dX0_isIn_16 rfl
theorem t_X0_isIn (l : Launch) {E : EvT} {A : Nat → Nat} {V : Nat → Nat → Int32} {L : Nat → Int64} {j : Nat} (hj : isCirc j) {c : Nat → Int32} (x1 : Int32) : KI l yX0_isIn (.code yX0_isIn cX0_isIn 2 (some .boolean) :: wA) rm_X0_isIn E (cw E A (setc V j c) L) (cw E A (setc V j c) L) [.ref (A j), .int x1] (f_X0_isIn c x1) := by
  refine ent_I (own := RX0) (ty := .boolean) (lv0 := [(0, .ref (A j)), (1, .int x1)]) (by decide) rfl rfl (Nat.le_of_ble_eq_true rfl) rfl (cw_fst _ _ _ _ _ _) ?_
  intro X Z Q hl C K hret
  exact w_X0_isIn_0 hj C K hret  x1 rfl
set_option maxRecDepth 100000 in
theorem w_X0_hasSlipped_0 {X : XT} {E : EvT} {Z : Nat → Prop} {Q : State → Prop} {A : Nat → Nat} {V : Nat → Nat → Int32} {L : Nat → Int64} {j : Nat} (hj : isCirc j) (C : Cx X (.code yX0_hasSlipped cX0_hasSlipped 2 (some .boolean)) cX0_hasSlipped 2 RX0 rm_X0_hasSlipped.frames rm_X0_hasSlipped.locals) (K : Ck X E Z) {r0 : Int32} {c : Nat → Int32} (hret : RI X 2 cX0_hasSlipped (IC X E Z A V L j) Q .boolean r0 c) : ∀ (x1 : Int32), f_X0_hasSlipped c x1 = r0 → Wm X 2 (IC X E Z A V L j) Q 0 [(0, .ref (A j)), (1, .int x1)] [] c := by
  intro x1 hf
  rw [f_X0_hasSlipped] at hf
  refine r_aload_n C dX0_hasSlipped_0 0 rfl rfl ?_
  refine gC_RX0_30 hj C K dX0_hasSlipped_1 ?_
  refine r_iload_n C dX0_hasSlipped_4 1 rfl rfl ?_
  refine p_ishr C dX0_hasSlipped_5 ?_
  refine r_iconst C dX0_hasSlipped_6 ki_1 ?_
  refine r_iand C dX0_hasSlipped_7 ?_
  refine r_if_eq C (tgt := 15) dX0_hasSlipped_8 rfl hf (fun hf => ?_) (fun hf => ?_)
  · refine r_iconst C dX0_hasSlipped_15 ki_0 ?_
    exact ri_T hret hf dX0_hasSlipped_16 rfl
  · refine r_iconst C dX0_hasSlipped_11 ki_1 ?_
    refine r_goto C (tgt := 16) dX0_hasSlipped_12 rfl ?_
    exact ri_T hret hf dX0_hasSlipped_16 rfl
theorem t_X0_hasSlipped (l : Launch) {E : EvT} {A : Nat → Nat} {V : Nat → Nat → Int32} {L : Nat → Int64} {j : Nat} (hj : isCirc j) {c : Nat → Int32} (x1 : Int32) : KI l yX0_hasSlipped (.code yX0_hasSlipped cX0_hasSlipped 2 (some .boolean) :: wA) rm_X0_hasSlipped E (cw E A (setc V j c) L) (cw E A (setc V j c) L) [.ref (A j), .int x1] (f_X0_hasSlipped c x1) := by
  refine ent_I (own := RX0) (ty := .boolean) (lv0 := [(0, .ref (A j)), (1, .int x1)]) (by decide) rfl rfl (Nat.le_of_ble_eq_true rfl) rfl (cw_fst _ _ _ _ _ _) ?_
  intro X Z Q hl C K hret
  exact w_X0_hasSlipped_0 hj C K hret  x1 rfl
set_option maxRecDepth 100000 in
theorem w_X0_takenBy_0 {X : XT} {E : EvT} {Z : Nat → Prop} {Q : State → Prop} {A : Nat → Nat} {V : Nat → Nat → Int32} {L : Nat → Int64} {j : Nat} (hj : isCirc j) (C : Cx X (.code yX0_takenBy cX0_takenBy 3 (some .int)) cX0_takenBy 3 RX0 rm_X0_takenBy.frames rm_X0_takenBy.locals) (K : Ck X E Z) {r0 : Int32} {c : Nat → Int32} (hret : RI X 3 cX0_takenBy (IC X E Z A V L j) Q .int r0 c) : ∀ (x1 : Int32), f_X0_takenBy c x1 = r0 → Wm X 3 (IC X E Z A V L j) Q 0 [(0, .ref (A j)), (1, .int x1)] [] c := by
  intro x1 hf
  rw [f_X0_takenBy] at hf
  refine r_iconst C dX0_takenBy_0 ki_1 ?_
  refine r_iload_n C dX0_takenBy_1 1 rfl rfl ?_
  refine p_ishl C dX0_takenBy_2 ?_
  refine r_istore_n C dX0_takenBy_3 rfl (Nat.le_of_ble_eq_true rfl) (lv2 := [(2, .int (ishl (1 : Int32) x1)), (0, .ref (A j)), (1, .int x1)]) rfl ?_
  refine r_aload_n C dX0_takenBy_4 1 rfl rfl ?_
  refine gC_RX0_18 hj C K dX0_takenBy_5 ?_
  refine r_iload_n C dX0_takenBy_8 0 rfl rfl ?_
  refine r_iand C dX0_takenBy_9 ?_
  refine r_if_eq C (tgt := 15) dX0_takenBy_10 rfl hf (fun hf => ?_) (fun hf => ?_)
  · refine r_aload_n C dX0_takenBy_15 1 rfl rfl ?_
    refine gC_RX0_15 hj C K dX0_takenBy_16 ?_
    refine r_iload_n C dX0_takenBy_19 0 rfl rfl ?_
    refine r_iand C dX0_takenBy_20 ?_
    refine r_if_eq C (tgt := 28) dX0_takenBy_21 rfl hf (fun hf => ?_) (fun hf => ?_)
    · refine r_iconst C dX0_takenBy_28 ki_1 ?_
      exact ri_T hret hf dX0_takenBy_29 rfl
    · refine r_iconst C dX0_takenBy_24 ki_2 ?_
      refine r_goto C (tgt := 29) dX0_takenBy_25 rfl ?_
      exact ri_T hret hf dX0_takenBy_29 rfl
  · refine r_iconst C dX0_takenBy_13 ki_0 ?_
    exact ri_T hret hf dX0_takenBy_14 rfl
theorem t_X0_takenBy (l : Launch) {E : EvT} {A : Nat → Nat} {V : Nat → Nat → Int32} {L : Nat → Int64} {j : Nat} (hj : isCirc j) {c : Nat → Int32} (x1 : Int32) : KI l yX0_takenBy (.code yX0_takenBy cX0_takenBy 3 (some .int) :: wA) rm_X0_takenBy E (cw E A (setc V j c) L) (cw E A (setc V j c) L) [.ref (A j), .int x1] (f_X0_takenBy c x1) := by
  refine ent_I (own := RX0) (ty := .int) (lv0 := [(0, .ref (A j)), (1, .int x1)]) (by decide) rfl rfl (Nat.le_of_ble_eq_true rfl) rfl (cw_fst _ _ _ _ _ _) ?_
  intro X Z Q hl C K hret
  exact w_X0_takenBy_0 hj C K hret  x1 rfl
set_option maxRecDepth 100000 in
theorem w_X0_pose_13 {X : XT} {E : EvT} {Z : Nat → Prop} {Q : State → Prop} {A : Nat → Nat} {V : Nat → Nat → Int32} {L : Nat → Int64} {j : Nat} (hj : isCirc j) (C : Cx X (.code yX0_pose cX0_pose 2 (some .int)) cX0_pose 2 RX0 rm_X0_pose.frames rm_X0_pose.locals) (K : Ck X E Z) {r0 : Int32} {c : Nat → Int32} (hret : RI X 2 cX0_pose (IC X E Z A V L j) Q .int r0 c) : ∀ (x1 : Int32), f_X0_pose_13 c x1 = r0 → Wm X 2 (IC X E Z A V L j) Q 13 [(0, .ref (A j)), (1, .int x1)] [] c := by
  intro x1 hf
  rw [f_X0_pose_13] at hf
  refine r_iload_n C dX0_pose_13 1 rfl rfl ?_
  refine r_iconst C dX0_pose_14 ki_4 ?_
  refine p_ishl C dX0_pose_15 ?_
  refine r_aload_n C dX0_pose_16 0 rfl rfl ?_
  refine gC_RX0_33 hj C K dX0_pose_17 ?_
  refine r_ior C dX0_pose_20 ?_
  refine b_int hf (fun t_1 hf => ?_)
  refine r_istore_n C dX0_pose_21 rfl (Nat.le_of_ble_eq_true rfl) (lv2 := [(1, .int t_1), (0, .ref (A j))]) rfl ?_
  refine r_iload_n C dX0_pose_22 0 rfl rfl ?_
  refine r_bipush C dX0_pose_23 kb_9 ?_
  refine p_ishl C dX0_pose_25 ?_
  refine r_aload_n C dX0_pose_26 1 rfl rfl ?_
  refine gC_RX0_30 hj C K dX0_pose_27 ?_
  refine r_ior C dX0_pose_30 ?_
  refine b_int hf (fun t_2 hf => ?_)
  refine r_istore_n C dX0_pose_31 rfl (Nat.le_of_ble_eq_true rfl) (lv2 := [(1, .int t_2), (0, .ref (A j))]) rfl ?_
  refine r_iload_n C dX0_pose_32 0 rfl rfl ?_
  refine r_bipush C dX0_pose_33 kb_9 ?_
  refine p_ishl C dX0_pose_35 ?_
  refine r_aload_n C dX0_pose_36 1 rfl rfl ?_
  refine gC_RX0_27 hj C K dX0_pose_37 ?_
  refine r_ior C dX0_pose_40 ?_
  exact ri_T hret hf dX0_pose_41 rfl
set_option maxRecDepth 100000 in
theorem w_X0_pose_0 {X : XT} {E : EvT} {Z : Nat → Prop} {Q : State → Prop} {A : Nat → Nat} {V : Nat → Nat → Int32} {L : Nat → Int64} {j : Nat} (hj : isCirc j) (C : Cx X (.code yX0_pose cX0_pose 2 (some .int)) cX0_pose 2 RX0 rm_X0_pose.frames rm_X0_pose.locals) (K : Ck X E Z) {r0 : Int32} {c : Nat → Int32} (hret : RI X 2 cX0_pose (IC X E Z A V L j) Q .int r0 c) : f_X0_pose c = r0 → Wm X 2 (IC X E Z A V L j) Q 0 [(0, .ref (A j))] [] c := by
  intro  hf
  rw [f_X0_pose] at hf
  refine r_aload_n C dX0_pose_0 0 rfl rfl ?_
  refine gC_RX0_36 hj C K dX0_pose_1 ?_
  refine r_if_eq C (tgt := 11) dX0_pose_4 rfl hf (fun hf => ?_) (fun hf => ?_)
  · refine r_iconst C dX0_pose_11 ki_0 ?_
    refine r_istore_n C dX0_pose_12 rfl (Nat.le_of_ble_eq_true rfl) (lv2 := [(1, .int (0 : Int32)), (0, .ref (A j))]) rfl ?_
    exact r_sub [1, 0] rfl (w_X0_pose_13 hj C K hret (0 : Int32) hf)
  · refine r_iconst C dX0_pose_7 ki_1 ?_
    refine r_goto C (tgt := 12) dX0_pose_8 rfl ?_
    refine r_istore_n C dX0_pose_12 rfl (Nat.le_of_ble_eq_true rfl) (lv2 := [(1, .int (1 : Int32)), (0, .ref (A j))]) rfl ?_
    exact r_sub [1, 0] rfl (w_X0_pose_13 hj C K hret (1 : Int32) hf)
theorem t_X0_pose (l : Launch) {E : EvT} {A : Nat → Nat} {V : Nat → Nat → Int32} {L : Nat → Int64} {j : Nat} (hj : isCirc j) {c : Nat → Int32} : KI l yX0_pose (.code yX0_pose cX0_pose 2 (some .int) :: wA) rm_X0_pose E (cw E A (setc V j c) L) (cw E A (setc V j c) L) [.ref (A j)] (f_X0_pose c) := by
  refine ent_I (own := RX0) (ty := .int) (lv0 := [(0, .ref (A j))]) (by decide) rfl rfl (Nat.le_of_ble_eq_true rfl) rfl (cw_fst _ _ _ _ _ _) ?_
  intro X Z Q hl C K hret
  exact w_X0_pose_0 hj C K hret   rfl
set_option maxRecDepth 100000 in
theorem w_X0_key_0 {X : XT} {E : EvT} {Z : Nat → Prop} {Q : State → Prop} {A : Nat → Nat} {V : Nat → Nat → Int32} {L : Nat → Int64} {j : Nat} (hj : isCirc j) (C : Cx X (.code yX0_key cX0_key 3 (some .long)) cX0_key 3 RX0 rm_X0_key.frames rm_X0_key.locals) (K : Ck X E Z) {r0 : Int64} {c : Nat → Int32} (hret : RLo X 3 cX0_key (IC X E Z A V L j) Q r0 c) : f_X0_key c = r0 → Wm X 3 (IC X E Z A V L j) Q 0 [(0, .ref (A j))] [] c := by
  intro  hf
  rw [f_X0_key] at hf
  refine r_aload_n C dX0_key_0 0 rfl rfl ?_
  refine gC_RX0_9 hj C K dX0_key_1 ?_
  refine r_i2l C dX0_key_4 ?_
  refine r_lstore_n C dX0_key_5 rfl (Nat.le_of_ble_eq_true rfl) (lv2 := [(1, .long ((c 0).toInt64)), (0, .ref (A j))]) rfl ?_
  refine r_lload_n C dX0_key_6 0 rfl rfl ?_
  refine r_bipush C dX0_key_7 kb_8 ?_
  refine p_lshl C dX0_key_9 ?_
  refine r_aload_n C dX0_key_10 1 rfl rfl ?_
  refine gC_RX0_15 hj C K dX0_key_11 ?_
  refine r_i2l C dX0_key_14 ?_
  refine r_lor C dX0_key_15 ?_
  refine b_long hf (fun t_1 hf => ?_)
  refine r_lstore_n C dX0_key_16 rfl (Nat.le_of_ble_eq_true rfl) (lv2 := [(1, .long t_1), (0, .ref (A j))]) rfl ?_
  refine r_lload_n C dX0_key_17 0 rfl rfl ?_
  refine r_bipush C dX0_key_18 kb_8 ?_
  refine p_lshl C dX0_key_20 ?_
  refine r_aload_n C dX0_key_21 1 rfl rfl ?_
  refine gC_RX0_18 hj C K dX0_key_22 ?_
  refine r_i2l C dX0_key_25 ?_
  refine r_lor C dX0_key_26 ?_
  refine b_long hf (fun t_2 hf => ?_)
  refine r_lstore_n C dX0_key_27 rfl (Nat.le_of_ble_eq_true rfl) (lv2 := [(1, .long t_2), (0, .ref (A j))]) rfl ?_
  refine r_lload_n C dX0_key_28 0 rfl rfl ?_
  refine r_bipush C dX0_key_29 kb_8 ?_
  refine p_lshl C dX0_key_31 ?_
  refine r_aload_n C dX0_key_32 1 rfl rfl ?_
  refine gC_RX0_21 hj C K dX0_key_33 ?_
  refine r_i2l C dX0_key_36 ?_
  refine r_lor C dX0_key_37 ?_
  refine b_long hf (fun t_3 hf => ?_)
  refine r_lstore_n C dX0_key_38 rfl (Nat.le_of_ble_eq_true rfl) (lv2 := [(1, .long t_3), (0, .ref (A j))]) rfl ?_
  refine r_lload_n C dX0_key_39 0 rfl rfl ?_
  refine r_bipush C dX0_key_40 kb_8 ?_
  refine p_lshl C dX0_key_42 ?_
  refine r_aload_n C dX0_key_43 1 rfl rfl ?_
  refine gC_RX0_24 hj C K dX0_key_44 ?_
  refine r_i2l C dX0_key_47 ?_
  refine r_lor C dX0_key_48 ?_
  refine b_long hf (fun t_4 hf => ?_)
  refine r_lstore_n C dX0_key_49 rfl (Nat.le_of_ble_eq_true rfl) (lv2 := [(1, .long t_4), (0, .ref (A j))]) rfl ?_
  refine r_lload_n C dX0_key_50 0 rfl rfl ?_
  refine r_bipush C dX0_key_51 kb_23 ?_
  refine p_lshl C dX0_key_53 ?_
  refine r_aload_n C dX0_key_54 1 rfl rfl ?_
  refine c_callI C K hj cal_RX0_80 ⟨rfl, rfl, Nat.le_of_ble_eq_true rfl, Nat.le_of_ble_eq_true rfl⟩ (t_X0_pose _ hj) rfl (rest := [.long (lshl t_4 (23 : Int32))]) rfl (Nat.le_of_ble_eq_true rfl) dX0_key_55 ?_
  refine r_i2l C dX0_key_58 ?_
  refine r_lor C dX0_key_59 ?_
  exact rl_T hret hf dX0_key_60
theorem t_X0_key (l : Launch) {E : EvT} {A : Nat → Nat} {V : Nat → Nat → Int32} {L : Nat → Int64} {j : Nat} (hj : isCirc j) {c : Nat → Int32} : KL l yX0_key (.code yX0_key cX0_key 3 (some .long) :: wA) rm_X0_key E (cw E A (setc V j c) L) (cw E A (setc V j c) L) [.ref (A j)] (f_X0_key c) := by
  refine ent_L (own := RX0) (lv0 := [(0, .ref (A j))]) (by decide) rfl rfl (Nat.le_of_ble_eq_true rfl) rfl (cw_fst _ _ _ _ _ _) ?_
  intro X Z Q hl C K hret
  exact w_X0_key_0 hj C K hret   rfl
set_option maxRecDepth 100000 in
theorem w_X0_takeAll_0 {X : XT} {E : EvT} {Z : Nat → Prop} {Q : State → Prop} {A : Nat → Nat} {V : Nat → Nat → Int32} {L : Nat → Int64} {j : Nat} (hj : isCirc j) {i : Nat} (hi : isCirc i) (hij : i ≠ j) {o : Nat → Int32} (ho : V i = o) (C : Cx X (.code yX0_takeAll cX0_takeAll 2 none) cX0_takeAll 2 RX0 rm_X0_takeAll.frames rm_X0_takeAll.locals) (K : Ck X E Z) {c0 : Nat → Int32} (hret : RV X 2 cX0_takeAll (IC X E Z A V L j) Q c0) : ∀ (c : Nat → Int32), f_X0_takeAll c o = some c0 → Wm X 2 (IC X E Z A V L j) Q 0 [(0, .ref (A j)), (1, .ref (A i))] [] c := by
  intro c hf
  rw [f_X0_takeAll] at hf
  refine r_aload_n C dX0_takeAll_0 0 rfl rfl ?_
  refine r_aload_n C dX0_takeAll_1 1 rfl rfl ?_
  refine gO_RX0_9 hi hij ho C K dX0_takeAll_2 ?_
  refine pC_RX0_9 hj C K dX0_takeAll_5 hf (fun c_1 hf => ?_)
  refine r_aload_n C dX0_takeAll_8 0 rfl rfl ?_
  refine r_aload_n C dX0_takeAll_9 1 rfl rfl ?_
  refine gO_RX0_15 hi hij ho C K dX0_takeAll_10 ?_
  refine pC_RX0_15 hj C K dX0_takeAll_13 hf (fun c_2 hf => ?_)
  refine r_aload_n C dX0_takeAll_16 0 rfl rfl ?_
  refine r_aload_n C dX0_takeAll_17 1 rfl rfl ?_
  refine gO_RX0_18 hi hij ho C K dX0_takeAll_18 ?_
  refine pC_RX0_18 hj C K dX0_takeAll_21 hf (fun c_3 hf => ?_)
  refine r_aload_n C dX0_takeAll_24 0 rfl rfl ?_
  refine r_aload_n C dX0_takeAll_25 1 rfl rfl ?_
  refine gO_RX0_21 hi hij ho C K dX0_takeAll_26 ?_
  refine pC_RX0_21 hj C K dX0_takeAll_29 hf (fun c_4 hf => ?_)
  refine r_aload_n C dX0_takeAll_32 0 rfl rfl ?_
  refine r_aload_n C dX0_takeAll_33 1 rfl rfl ?_
  refine gO_RX0_24 hi hij ho C K dX0_takeAll_34 ?_
  refine pC_RX0_24 hj C K dX0_takeAll_37 hf (fun c_5 hf => ?_)
  refine r_aload_n C dX0_takeAll_40 0 rfl rfl ?_
  refine r_aload_n C dX0_takeAll_41 1 rfl rfl ?_
  refine gO_RX0_27 hi hij ho C K dX0_takeAll_42 ?_
  refine pC_RX0_27 hj C K dX0_takeAll_45 hf (fun c_6 hf => ?_)
  refine r_aload_n C dX0_takeAll_48 0 rfl rfl ?_
  refine r_aload_n C dX0_takeAll_49 1 rfl rfl ?_
  refine gO_RX0_30 hi hij ho C K dX0_takeAll_50 ?_
  refine pC_RX0_30 hj C K dX0_takeAll_53 hf (fun c_7 hf => ?_)
  refine r_aload_n C dX0_takeAll_56 0 rfl rfl ?_
  refine r_aload_n C dX0_takeAll_57 1 rfl rfl ?_
  refine gO_RX0_33 hi hij ho C K dX0_takeAll_58 ?_
  refine pC_RX0_33 hj C K dX0_takeAll_61 hf (fun c_8 hf => ?_)
  refine r_aload_n C dX0_takeAll_64 0 rfl rfl ?_
  refine r_aload_n C dX0_takeAll_65 1 rfl rfl ?_
  refine gO_RX0_36 hi hij ho C K dX0_takeAll_66 ?_
  refine gd_if hf (fun hz hf => ?_)
  refine pC_RX0_36 hj hz C K dX0_takeAll_69 hf (fun c_9 hf => ?_)
  exact rv_OV hret hf dX0_takeAll_72
theorem t_X0_takeAll (l : Launch) {E : EvT} {A : Nat → Nat} {V : Nat → Nat → Int32} {L : Nat → Int64} {j : Nat} (hj : isCirc j) {i : Nat} (hi : isCirc i) (hij : i ≠ j) {c : Nat → Int32} {c0 : Nat → Int32} (hq : f_X0_takeAll c (V i) = some c0) : KV l yX0_takeAll (.code yX0_takeAll cX0_takeAll 2 none :: wA) rm_X0_takeAll E (cw E A (setc V j c) L) (cw E A (setc V j c0) L) [.ref (A j), .ref (A i)] := by
  refine ent_V (own := RX0) (lv0 := [(0, .ref (A j)), (1, .ref (A i))]) (by decide) rfl rfl (Nat.le_of_ble_eq_true rfl) rfl (cw_fst _ _ _ _ _ _) ?_
  intro X Z Q hl C K hret
  exact w_X0_takeAll_0 hj hi hij (o := V i) rfl C K hret c  hq
set_option maxRecDepth 100000 in
theorem w_J6_bitCount_0f7a4_0 {X : XT} {Q : State → Prop} (C : Cx X (.code yJ6_bitCount_0f7a4 cJ6_bitCount_0f7a4 1 (some .int)) cJ6_bitCount_0f7a4 1 RJ6 rm_J6_bitCount_0f7a4.frames rm_J6_bitCount_0f7a4.locals) {r0 : Int32} (hret : RI X 1 cJ6_bitCount_0f7a4 (IP X) Q .int r0 ()) : ∀ (x0 : Int32), f_J6_bitCount_0f7a4 x0 = r0 → Wm X 1 (IP X) Q 0 [(0, .int x0)] [] () := by
  intro x0 hf
  rw [f_J6_bitCount_0f7a4] at hf
  refine r_iload_n C dJ6_bitCount_0f7a4_0 0 rfl rfl ?_
  refine r_iload_n C dJ6_bitCount_0f7a4_1 0 rfl rfl ?_
  refine r_iconst C dJ6_bitCount_0f7a4_2 ki_1 ?_
  refine p_iushr C dJ6_bitCount_0f7a4_3 ?_
  refine r_ldcw C q_k_RJ6_265 dJ6_bitCount_0f7a4_4 ?_
  refine r_iand C dJ6_bitCount_0f7a4_7 ?_
  refine r_isub C dJ6_bitCount_0f7a4_8 ?_
  refine b_int hf (fun t_1 hf => ?_)
  refine r_istore_n C dJ6_bitCount_0f7a4_9 rfl (Nat.le_of_ble_eq_true rfl) (lv2 := [(0, .int t_1)]) rfl ?_
  refine r_iload_n C dJ6_bitCount_0f7a4_10 0 rfl rfl ?_
  refine r_ldcw C q_k_RJ6_266 dJ6_bitCount_0f7a4_11 ?_
  refine r_iand C dJ6_bitCount_0f7a4_14 ?_
  refine r_iload_n C dJ6_bitCount_0f7a4_15 0 rfl rfl ?_
  refine r_iconst C dJ6_bitCount_0f7a4_16 ki_2 ?_
  refine p_iushr C dJ6_bitCount_0f7a4_17 ?_
  refine r_ldcw C q_k_RJ6_266 dJ6_bitCount_0f7a4_18 ?_
  refine r_iand C dJ6_bitCount_0f7a4_21 ?_
  refine r_iadd C dJ6_bitCount_0f7a4_22 ?_
  refine b_int hf (fun t_2 hf => ?_)
  refine r_istore_n C dJ6_bitCount_0f7a4_23 rfl (Nat.le_of_ble_eq_true rfl) (lv2 := [(0, .int t_2)]) rfl ?_
  refine r_iload_n C dJ6_bitCount_0f7a4_24 0 rfl rfl ?_
  refine r_iload_n C dJ6_bitCount_0f7a4_25 0 rfl rfl ?_
  refine r_iconst C dJ6_bitCount_0f7a4_26 ki_4 ?_
  refine p_iushr C dJ6_bitCount_0f7a4_27 ?_
  refine r_iadd C dJ6_bitCount_0f7a4_28 ?_
  refine r_ldcw C q_k_RJ6_267 dJ6_bitCount_0f7a4_29 ?_
  refine r_iand C dJ6_bitCount_0f7a4_32 ?_
  refine b_int hf (fun t_3 hf => ?_)
  refine r_istore_n C dJ6_bitCount_0f7a4_33 rfl (Nat.le_of_ble_eq_true rfl) (lv2 := [(0, .int t_3)]) rfl ?_
  refine r_iload_n C dJ6_bitCount_0f7a4_34 0 rfl rfl ?_
  refine r_iload_n C dJ6_bitCount_0f7a4_35 0 rfl rfl ?_
  refine r_bipush C dJ6_bitCount_0f7a4_36 kb_8 ?_
  refine p_iushr C dJ6_bitCount_0f7a4_38 ?_
  refine r_iadd C dJ6_bitCount_0f7a4_39 ?_
  refine b_int hf (fun t_4 hf => ?_)
  refine r_istore_n C dJ6_bitCount_0f7a4_40 rfl (Nat.le_of_ble_eq_true rfl) (lv2 := [(0, .int t_4)]) rfl ?_
  refine r_iload_n C dJ6_bitCount_0f7a4_41 0 rfl rfl ?_
  refine r_iload_n C dJ6_bitCount_0f7a4_42 0 rfl rfl ?_
  refine r_bipush C dJ6_bitCount_0f7a4_43 kb_16 ?_
  refine p_iushr C dJ6_bitCount_0f7a4_45 ?_
  refine r_iadd C dJ6_bitCount_0f7a4_46 ?_
  refine b_int hf (fun t_5 hf => ?_)
  refine r_istore_n C dJ6_bitCount_0f7a4_47 rfl (Nat.le_of_ble_eq_true rfl) (lv2 := [(0, .int t_5)]) rfl ?_
  refine r_iload_n C dJ6_bitCount_0f7a4_48 0 rfl rfl ?_
  refine r_bipush C dJ6_bitCount_0f7a4_49 kb_63 ?_
  refine r_iand C dJ6_bitCount_0f7a4_51 ?_
  exact ri_T hret hf dJ6_bitCount_0f7a4_52 rfl
theorem t_J6_bitCount_0f7a4 (l : Launch) (x0 : Int32) : KP l yJ6_bitCount_0f7a4 (.code yJ6_bitCount_0f7a4 cJ6_bitCount_0f7a4 1 (some .int) :: wA) rm_J6_bitCount_0f7a4 [.int x0] (f_J6_bitCount_0f7a4 x0) := by
  refine ent_P (own := RJ6) (ty := .int) (lv0 := [(0, .int x0)]) (by decide) rfl rfl (Nat.le_of_ble_eq_true rfl) rfl ?_
  intro X Q hl C hret
  exact w_J6_bitCount_0f7a4_0 C hret x0 rfl
set_option maxRecDepth 100000 in
theorem w_X0_canCount_0 {X : XT} {E : EvT} {Z : Nat → Prop} {Q : State → Prop} {A : Nat → Nat} {V : Nat → Nat → Int32} {L : Nat → Int64} {j : Nat} (hj : isCirc j) (C : Cx X (.code yX0_canCount cX0_canCount 1 (some .boolean)) cX0_canCount 1 RX0 rm_X0_canCount.frames rm_X0_canCount.locals) (K : Ck X E Z) {r0 : Int32} {c : Nat → Int32} (hret : RI X 1 cX0_canCount (IC X E Z A V L j) Q .boolean r0 c) : f_X0_canCount c = r0 → Wm X 1 (IC X E Z A V L j) Q 0 [(0, .ref (A j))] [] c := by
  intro  hf
  rw [f_X0_canCount] at hf
  refine r_aload_n C dX0_canCount_0 0 rfl rfl ?_
  refine gC_RX0_27 hj C K dX0_canCount_1 ?_
  refine r_aload_n C dX0_canCount_4 0 rfl rfl ?_
  refine gC_RX0_18 hj C K dX0_canCount_5 ?_
  refine r_iconst C dX0_canCount_8 ki_m1 ?_
  refine r_ixor C dX0_canCount_9 ?_
  refine r_iand C dX0_canCount_10 ?_
  refine r_if_eq C (tgt := 29) dX0_canCount_11 rfl hf (fun hf => ?_) (fun hf => ?_)
  · refine r_iconst C dX0_canCount_29 ki_0 ?_
    exact ri_T hret hf dX0_canCount_30 rfl
  · refine r_aload_n C dX0_canCount_14 0 rfl rfl ?_
    refine gC_RX0_27 hj C K dX0_canCount_15 ?_
    refine r_callP C cas_RX0_48 ⟨rfl, rfl, Nat.le_of_ble_eq_true rfl, Nat.le_of_ble_eq_true rfl⟩ (t_J6_bitCount_0f7a4 _ (c 5)) rfl (rest := []) rfl (Nat.le_of_ble_eq_true rfl) dX0_canCount_18 ?_
    refine r_iconst C dX0_canCount_21 ki_2 ?_
    refine r_icmp_lt C (tgt := 29) dX0_canCount_22 rfl hf (fun hf => ?_) (fun hf => ?_)
    · refine r_iconst C dX0_canCount_29 ki_0 ?_
      exact ri_T hret hf dX0_canCount_30 rfl
    · refine r_iconst C dX0_canCount_25 ki_1 ?_
      refine r_goto C (tgt := 30) dX0_canCount_26 rfl ?_
      exact ri_T hret hf dX0_canCount_30 rfl
theorem t_X0_canCount (l : Launch) {E : EvT} {A : Nat → Nat} {V : Nat → Nat → Int32} {L : Nat → Int64} {j : Nat} (hj : isCirc j) {c : Nat → Int32} : KI l yX0_canCount (.code yX0_canCount cX0_canCount 1 (some .boolean) :: wA) rm_X0_canCount E (cw E A (setc V j c) L) (cw E A (setc V j c) L) [.ref (A j)] (f_X0_canCount c) := by
  refine ent_I (own := RX0) (ty := .boolean) (lv0 := [(0, .ref (A j))]) (by decide) rfl rfl (Nat.le_of_ble_eq_true rfl) rfl (cw_fst _ _ _ _ _ _) ?_
  intro X Z Q hl C K hret
  exact w_X0_canCount_0 hj C K hret   rfl
set_option maxRecDepth 100000 in
theorem w_X0_nextOf_59 {X : XT} {E : EvT} {Z : Nat → Prop} {Q : State → Prop} {A : Nat → Nat} {V : Nat → Nat → Int32} {L : Nat → Int64} {j : Nat} (hj : isCirc j) (C : Cx X (.code yX0_nextOf cX0_nextOf 5 (some .int)) cX0_nextOf 5 RX0 rm_X0_nextOf.frames rm_X0_nextOf.locals) (K : Ck X E Z) {r0 : Int32} {c : Nat → Int32} (hret : RI X 5 cX0_nextOf (IC X E Z A V L j) Q .int r0 c) {k5 : Int32 → Int32 → Option Int32} {x1 : Int32} (hk5 : ∀ (x3 : Int32) (x4 : Int32), k5 x3 x4 = some r0 → Wm X 5 (IC X E Z A V L j) Q 5 [(0, .ref (A j)), (1, .int x1), (3, .int x3), (4, .int x4)] [] c) : ∀ (x3 : Int32) (x4 : Int32), f_X0_nextOf_59 k5 c x1 x3 x4 = some r0 → Wm X 5 (IC X E Z A V L j) Q 59 [(0, .ref (A j)), (1, .int x1), (3, .int x3), (4, .int x4)] [] c := by
  intro x3 x4 hf
  rw [f_X0_nextOf_59] at hf
  refine r_iload_n C dX0_nextOf_59 1 rfl rfl ?_
  refine r_iload_n C dX0_nextOf_60 2 rfl rfl ?_
  refine p_ishr C dX0_nextOf_61 ?_
  refine r_iconst C dX0_nextOf_62 ki_1 ?_
  refine r_iand C dX0_nextOf_63 ?_
  refine r_if_eq C (tgt := 70) dX0_nextOf_64 rfl hf (fun hf => ?_) (fun hf => ?_)
  · refine r_iinc C dX0_nextOf_70 3 rfl (kn_1 _) (Nat.le_of_ble_eq_true rfl) (lv2 := [(4, .int (x4 + 1)), (0, .ref (A j)), (1, .int x1), (3, .int x3)]) rfl ?_
    refine r_goto C (tgt := 5) dX0_nextOf_73 rfl ?_
    exact r_sub [1, 2, 3, 0] rfl (hk5 x3 (x4 + 1) hf)
  · refine r_goto C (tgt := 76) dX0_nextOf_67 rfl ?_
    refine r_iload_n C dX0_nextOf_76 2 rfl rfl ?_
    exact ri_OR hret hf dX0_nextOf_77 rfl
set_option maxRecDepth 100000 in
theorem w_X0_nextOf_5 {X : XT} {E : EvT} {Z : Nat → Prop} {Q : State → Prop} {A : Nat → Nat} {V : Nat → Nat → Int32} {L : Nat → Int64} {j : Nat} (hj : isCirc j) (C : Cx X (.code yX0_nextOf cX0_nextOf 5 (some .int)) cX0_nextOf 5 RX0 rm_X0_nextOf.frames rm_X0_nextOf.locals) (K : Ck X E Z) {r0 : Int32} {c : Nat → Int32} (hret : RI X 5 cX0_nextOf (IC X E Z A V L j) Q .int r0 c) (x1 : Int32) : ∀ (n : Nat) (x3 : Int32) (x4 : Int32), f_X0_nextOf_5 c x1 n x3 x4 = some r0 → Wm X 5 (IC X E Z A V L j) Q 5 [(0, .ref (A j)), (1, .int x1), (3, .int x3), (4, .int x4)] [] c := by
  intro n
  induction n with
  | zero =>
    intro x3 x4 hf
    exact none_e hf
  | succ n ih =>
    intro x3 x4 hf
    rw [f_X0_nextOf_5] at hf
    refine r_iload C dX0_nextOf_5 3 rfl ?_
    refine r_aload_n C dX0_nextOf_7 0 rfl rfl ?_
    refine gC_RX0_9 hj C K dX0_nextOf_8 ?_
    refine r_icmp_ge C (tgt := 76) dX0_nextOf_11 rfl hf (fun hf => ?_) (fun hf => ?_)
    · refine r_iload_n C dX0_nextOf_76 2 rfl rfl ?_
      exact ri_OR hret hf dX0_nextOf_77 rfl
    · refine r_aload_n C dX0_nextOf_14 0 rfl rfl ?_
      refine gC_RX0_36 hj C K dX0_nextOf_15 ?_
      refine r_if_eq C (tgt := 42) dX0_nextOf_18 rfl hf (fun hf => ?_) (fun hf => ?_)
      · refine r_iload_n C dX0_nextOf_42 2 rfl rfl ?_
        refine r_if_le C (tgt := 52) dX0_nextOf_43 rfl hf (fun hf => ?_) (fun hf => ?_)
        · refine r_aload_n C dX0_nextOf_52 0 rfl rfl ?_
          refine gC_RX0_9 hj C K dX0_nextOf_53 ?_
          refine r_iconst C dX0_nextOf_56 ki_1 ?_
          refine r_isub C dX0_nextOf_57 ?_
          refine r_istore_n C dX0_nextOf_58 rfl (Nat.le_of_ble_eq_true rfl) (lv2 := [(3, .int ((c 0) - (1 : Int32))), (0, .ref (A j)), (1, .int x1), (4, .int x4)]) rfl ?_
          exact r_sub [1, 2, 0, 3] rfl (w_X0_nextOf_59 hj C K hret ih ((c 0) - (1 : Int32)) x4 hf)
        · refine r_iload_n C dX0_nextOf_46 2 rfl rfl ?_
          refine r_iconst C dX0_nextOf_47 ki_1 ?_
          refine r_isub C dX0_nextOf_48 ?_
          refine r_goto C (tgt := 58) dX0_nextOf_49 rfl ?_
          refine r_istore_n C dX0_nextOf_58 rfl (Nat.le_of_ble_eq_true rfl) (lv2 := [(3, .int (x3 - (1 : Int32))), (0, .ref (A j)), (1, .int x1), (4, .int x4)]) rfl ?_
          exact r_sub [1, 2, 0, 3] rfl (w_X0_nextOf_59 hj C K hret ih (x3 - (1 : Int32)) x4 hf)
      · refine r_iload_n C dX0_nextOf_21 2 rfl rfl ?_
        refine r_iconst C dX0_nextOf_22 ki_1 ?_
        refine r_iadd C dX0_nextOf_23 ?_
        refine r_aload_n C dX0_nextOf_24 0 rfl rfl ?_
        refine gC_RX0_9 hj C K dX0_nextOf_25 ?_
        refine r_icmp_ge C (tgt := 37) dX0_nextOf_28 rfl hf (fun hf => ?_) (fun hf => ?_)
        · refine r_iconst C dX0_nextOf_37 ki_0 ?_
          refine r_istore_n C dX0_nextOf_38 rfl (Nat.le_of_ble_eq_true rfl) (lv2 := [(3, .int (0 : Int32)), (0, .ref (A j)), (1, .int x1), (4, .int x4)]) rfl ?_
          refine r_goto C (tgt := 59) dX0_nextOf_39 rfl ?_
          exact r_sub [1, 2, 0, 3] rfl (w_X0_nextOf_59 hj C K hret ih (0 : Int32) x4 hf)
        · refine r_iload_n C dX0_nextOf_31 2 rfl rfl ?_
          refine r_iconst C dX0_nextOf_32 ki_1 ?_
          refine r_iadd C dX0_nextOf_33 ?_
          refine r_goto C (tgt := 38) dX0_nextOf_34 rfl ?_
          refine r_istore_n C dX0_nextOf_38 rfl (Nat.le_of_ble_eq_true rfl) (lv2 := [(3, .int (x3 + (1 : Int32))), (0, .ref (A j)), (1, .int x1), (4, .int x4)]) rfl ?_
          refine r_goto C (tgt := 59) dX0_nextOf_39 rfl ?_
          exact r_sub [1, 2, 0, 3] rfl (w_X0_nextOf_59 hj C K hret ih (x3 + (1 : Int32)) x4 hf)
set_option maxRecDepth 100000 in
theorem w_X0_nextOf_0 {X : XT} {E : EvT} {Z : Nat → Prop} {Q : State → Prop} {A : Nat → Nat} {V : Nat → Nat → Int32} {L : Nat → Int64} {j : Nat} (hj : isCirc j) (C : Cx X (.code yX0_nextOf cX0_nextOf 5 (some .int)) cX0_nextOf 5 RX0 rm_X0_nextOf.frames rm_X0_nextOf.locals) (K : Ck X E Z) {r0 : Int32} {c : Nat → Int32} (hret : RI X 5 cX0_nextOf (IC X E Z A V L j) Q .int r0 c) : ∀ (x1 : Int32) (x2 : Int32), f_X0_nextOf c x1 x2 = some r0 → Wm X 5 (IC X E Z A V L j) Q 0 [(0, .ref (A j)), (1, .int x1), (2, .int x2)] [] c := by
  intro x1 x2 hf
  rw [f_X0_nextOf] at hf
  refine r_iload_n C dX0_nextOf_0 2 rfl rfl ?_
  refine r_istore_n C dX0_nextOf_1 rfl (Nat.le_of_ble_eq_true rfl) (lv2 := [(3, .int x2), (0, .ref (A j)), (1, .int x1), (2, .int x2)]) rfl ?_
  refine r_iconst C dX0_nextOf_2 ki_0 ?_
  refine r_istore C dX0_nextOf_3 (Nat.le_of_ble_eq_true rfl) (lv2 := [(4, .int (0 : Int32)), (3, .int x2), (0, .ref (A j)), (1, .int x1), (2, .int x2)]) rfl ?_
  exact r_sub [2, 3, 1, 0] rfl (w_X0_nextOf_5 hj C K hret x1 20000 x2 (0 : Int32) hf)
theorem t_X0_nextOf (l : Launch) {E : EvT} {A : Nat → Nat} {V : Nat → Nat → Int32} {L : Nat → Int64} {j : Nat} (hj : isCirc j) {c : Nat → Int32} (x1 : Int32) (x2 : Int32) {r0 : Int32} (hq : f_X0_nextOf c x1 x2 = some r0) : KI l yX0_nextOf (.code yX0_nextOf cX0_nextOf 5 (some .int) :: wA) rm_X0_nextOf E (cw E A (setc V j c) L) (cw E A (setc V j c) L) [.ref (A j), .int x1, .int x2] r0 := by
  refine ent_I (own := RX0) (ty := .int) (lv0 := [(0, .ref (A j)), (1, .int x1), (2, .int x2)]) (by decide) rfl rfl (Nat.le_of_ble_eq_true rfl) rfl (cw_fst _ _ _ _ _ _) ?_
  intro X Z Q hl C K hret
  exact w_X0_nextOf_0 hj C K hret  x1 x2 hq
set_option maxRecDepth 100000 in
theorem w_X0_fallsOn_74 {X : XT} {E : EvT} {Z : Nat → Prop} {Q : State → Prop} {A : Nat → Nat} {V : Nat → Nat → Int32} {L : Nat → Int64} {j : Nat} (hj : isCirc j) (C : Cx X (.code yX0_fallsOn cX0_fallsOn 7 (some .int)) cX0_fallsOn 7 RX0 rm_X0_fallsOn.frames rm_X0_fallsOn.locals) (K : Ck X E Z) {r0 : Int32} {c : Nat → Int32} (hret : RI X 7 cX0_fallsOn (IC X E Z A V L j) Q .int r0 c) (x2 : Int32) : ∀ (n : Nat) (x4 : Int32) (x5 : Int32) (x6 : Int32), f_X0_fallsOn_74 c x2 n x4 x5 x6 = some r0 → Wm X 7 (IC X E Z A V L j) Q 74 [(0, .ref (A j)), (2, .int x2), (4, .int x4), (5, .int x5), (6, .int x6)] [] c := by
  intro n
  induction n with
  | zero =>
    intro x4 x5 x6 hf
    exact none_e hf
  | succ n ih =>
    intro x4 x5 x6 hf
    rw [f_X0_fallsOn_74] at hf
    refine r_iload C dX0_fallsOn_74 4 rfl ?_
    refine r_aload_n C dX0_fallsOn_76 0 rfl rfl ?_
    refine gC_RX0_9 hj C K dX0_fallsOn_77 ?_
    refine r_icmp_ge C (tgt := 117) dX0_fallsOn_80 rfl hf (fun hf => ?_) (fun hf => ?_)
    · refine r_iload C dX0_fallsOn_117 3 rfl ?_
      exact ri_OR hret hf dX0_fallsOn_119 rfl
    · refine r_iload C dX0_fallsOn_83 2 rfl ?_
      refine r_aload_n C dX0_fallsOn_85 0 rfl rfl ?_
      refine r_iload C dX0_fallsOn_86 3 rfl ?_
      refine c_callI C K hj cal_RX0_77 ⟨rfl, rfl, Nat.le_of_ble_eq_true rfl, Nat.le_of_ble_eq_true rfl⟩ (t_X0_takenBy _ hj x5) rfl (rest := [.int x4]) rfl (Nat.le_of_ble_eq_true rfl) dX0_fallsOn_88 ?_
      refine r_isub C dX0_fallsOn_91 ?_
      refine r_istore C dX0_fallsOn_92 (Nat.le_of_ble_eq_true rfl) (lv2 := [(4, .int (x4 - (f_X0_takenBy c x5))), (0, .ref (A j)), (2, .int x2), (5, .int x5), (6, .int x6)]) rfl ?_
      refine r_iload C dX0_fallsOn_94 0 rfl ?_
      refine r_if_ge C (tgt := 102) dX0_fallsOn_96 rfl hf (fun hf => ?_) (fun hf => ?_)
      · refine r_aload_n C dX0_fallsOn_102 1 rfl rfl ?_
        refine r_iload_n C dX0_fallsOn_103 2 rfl rfl ?_
        refine r_iload C dX0_fallsOn_104 3 rfl ?_
        refine bd1_e hf (fun r_1 hq hf => ?_)
        refine c_callI C K hj cal_RX0_67 ⟨rfl, rfl, Nat.le_of_ble_eq_true rfl, Nat.le_of_ble_eq_true rfl⟩ (t_X0_nextOf _ hj x2 x5 hq) rfl (rest := []) rfl (Nat.le_of_ble_eq_true rfl) dX0_fallsOn_106 ?_
        refine r_istore C dX0_fallsOn_109 (Nat.le_of_ble_eq_true rfl) (lv2 := [(5, .int r_1), (4, .int (x4 - (f_X0_takenBy c x5))), (0, .ref (A j)), (2, .int x2), (6, .int x6)]) rfl ?_
        refine r_iinc C dX0_fallsOn_111 4 rfl (kn_1 _) (Nat.le_of_ble_eq_true rfl) (lv2 := [(6, .int (x6 + 1)), (5, .int r_1), (4, .int (x4 - (f_X0_takenBy c x5))), (0, .ref (A j)), (2, .int x2)]) rfl ?_
        refine r_goto C (tgt := 74) dX0_fallsOn_114 rfl ?_
        exact r_sub [3, 4, 2, 1, 0] rfl (ih (x4 - (f_X0_takenBy c x5)) r_1 (x6 + 1) hf)
      · refine r_goto C (tgt := 117) dX0_fallsOn_99 rfl ?_
        refine r_iload C dX0_fallsOn_117 3 rfl ?_
        exact ri_OR hret hf dX0_fallsOn_119 rfl
set_option maxRecDepth 100000 in
theorem w_X0_fallsOn_42 {X : XT} {E : EvT} {Z : Nat → Prop} {Q : State → Prop} {A : Nat → Nat} {V : Nat → Nat → Int32} {L : Nat → Int64} {j : Nat} (hj : isCirc j) (C : Cx X (.code yX0_fallsOn cX0_fallsOn 7 (some .int)) cX0_fallsOn 7 RX0 rm_X0_fallsOn.frames rm_X0_fallsOn.locals) (K : Ck X E Z) {r0 : Int32} {c : Nat → Int32} (hret : RI X 7 cX0_fallsOn (IC X E Z A V L j) Q .int r0 c) : ∀ (x2 : Int32) (x4 : Int32), f_X0_fallsOn_42 c x2 x4 = some r0 → Wm X 7 (IC X E Z A V L j) Q 42 [(0, .ref (A j)), (2, .int x2), (4, .int x4)] [] c := by
  intro x2 x4 hf
  rw [f_X0_fallsOn_42] at hf
  refine r_iload_n C dX0_fallsOn_42 1 rfl rfl ?_
  refine r_aload_n C dX0_fallsOn_43 0 rfl rfl ?_
  refine gC_RX0_33 hj C K dX0_fallsOn_44 ?_
  refine p_ishr C dX0_fallsOn_47 ?_
  refine r_iconst C dX0_fallsOn_48 ki_1 ?_
  refine r_iand C dX0_fallsOn_49 ?_
  refine r_if_eq C (tgt := 60) dX0_fallsOn_50 rfl hf (fun hf => ?_) (fun hf => ?_)
  · refine r_aload_n C dX0_fallsOn_60 0 rfl rfl ?_
    refine r_iload_n C dX0_fallsOn_61 1 rfl rfl ?_
    refine r_aload_n C dX0_fallsOn_62 0 rfl rfl ?_
    refine gC_RX0_33 hj C K dX0_fallsOn_63 ?_
    refine bd1_e hf (fun r_1 hq hf => ?_)
    refine c_callI C K hj cal_RX0_67 ⟨rfl, rfl, Nat.le_of_ble_eq_true rfl, Nat.le_of_ble_eq_true rfl⟩ (t_X0_nextOf _ hj x2 (c 7) hq) rfl (rest := []) rfl (Nat.le_of_ble_eq_true rfl) dX0_fallsOn_66 ?_
    refine r_istore C dX0_fallsOn_69 (Nat.le_of_ble_eq_true rfl) (lv2 := [(5, .int r_1), (0, .ref (A j)), (2, .int x2), (4, .int x4)]) rfl ?_
    refine r_iconst C dX0_fallsOn_71 ki_0 ?_
    refine r_istore C dX0_fallsOn_72 (Nat.le_of_ble_eq_true rfl) (lv2 := [(6, .int (0 : Int32)), (5, .int r_1), (0, .ref (A j)), (2, .int x2), (4, .int x4)]) rfl ?_
    exact r_sub [2, 3, 4, 1, 0] rfl (w_X0_fallsOn_74 hj C K hret x2 20000 x4 r_1 (0 : Int32) hf)
  · refine r_aload_n C dX0_fallsOn_53 0 rfl rfl ?_
    refine gC_RX0_33 hj C K dX0_fallsOn_54 ?_
    refine r_goto C (tgt := 69) dX0_fallsOn_57 rfl ?_
    refine r_istore C dX0_fallsOn_69 (Nat.le_of_ble_eq_true rfl) (lv2 := [(5, .int (c 7)), (0, .ref (A j)), (2, .int x2), (4, .int x4)]) rfl ?_
    refine r_iconst C dX0_fallsOn_71 ki_0 ?_
    refine r_istore C dX0_fallsOn_72 (Nat.le_of_ble_eq_true rfl) (lv2 := [(6, .int (0 : Int32)), (5, .int (c 7)), (0, .ref (A j)), (2, .int x2), (4, .int x4)]) rfl ?_
    exact r_sub [2, 3, 4, 1, 0] rfl (w_X0_fallsOn_74 hj C K hret x2 20000 x4 (c 7) (0 : Int32) hf)
set_option maxRecDepth 100000 in
theorem w_X0_fallsOn_0 {X : XT} {E : EvT} {Z : Nat → Prop} {Q : State → Prop} {A : Nat → Nat} {V : Nat → Nat → Int32} {L : Nat → Int64} {j : Nat} (hj : isCirc j) (C : Cx X (.code yX0_fallsOn cX0_fallsOn 7 (some .int)) cX0_fallsOn 7 RX0 rm_X0_fallsOn.frames rm_X0_fallsOn.locals) (K : Ck X E Z) {r0 : Int32} {c : Nat → Int32} (hret : RI X 7 cX0_fallsOn (IC X E Z A V L j) Q .int r0 c) : ∀ (x1 : Int32), f_X0_fallsOn c x1 = some r0 → Wm X 7 (IC X E Z A V L j) Q 0 [(0, .ref (A j)), (1, .int x1)] [] c := by
  intro x1 hf
  rw [f_X0_fallsOn] at hf
  refine r_aload_n C dX0_fallsOn_0 0 rfl rfl ?_
  refine gC_RX0_27 hj C K dX0_fallsOn_1 ?_
  refine r_aload_n C dX0_fallsOn_4 0 rfl rfl ?_
  refine gC_RX0_18 hj C K dX0_fallsOn_5 ?_
  refine r_iconst C dX0_fallsOn_8 ki_m1 ?_
  refine r_ixor C dX0_fallsOn_9 ?_
  refine r_iand C dX0_fallsOn_10 ?_
  refine b_int hf (fun t_1 hf => ?_)
  refine r_istore_n C dX0_fallsOn_11 rfl (Nat.le_of_ble_eq_true rfl) (lv2 := [(2, .int t_1), (0, .ref (A j)), (1, .int x1)]) rfl ?_
  refine r_iload_n C dX0_fallsOn_12 0 rfl rfl ?_
  refine r_callP C cas_RX0_48 ⟨rfl, rfl, Nat.le_of_ble_eq_true rfl, Nat.le_of_ble_eq_true rfl⟩ (t_J6_bitCount_0f7a4 _ t_1) rfl (rest := []) rfl (Nat.le_of_ble_eq_true rfl) dX0_fallsOn_13 ?_
  refine r_iload_n C dX0_fallsOn_16 0 rfl rfl ?_
  refine r_aload_n C dX0_fallsOn_17 1 rfl rfl ?_
  refine gC_RX0_15 hj C K dX0_fallsOn_18 ?_
  refine r_iand C dX0_fallsOn_21 ?_
  refine r_callP C cas_RX0_48 ⟨rfl, rfl, Nat.le_of_ble_eq_true rfl, Nat.le_of_ble_eq_true rfl⟩ (t_J6_bitCount_0f7a4 _ (t_1 &&& (c 1))) rfl (rest := [.int (f_J6_bitCount_0f7a4 t_1)]) rfl (Nat.le_of_ble_eq_true rfl) dX0_fallsOn_22 ?_
  refine r_iadd C dX0_fallsOn_25 ?_
  refine b_int hf (fun t_2 hf => ?_)
  refine r_istore_n C dX0_fallsOn_26 rfl (Nat.le_of_ble_eq_true rfl) (lv2 := [(3, .int t_2), (2, .int t_1), (0, .ref (A j)), (1, .int x1)]) rfl ?_
  refine r_iload_n C dX0_fallsOn_27 0 rfl rfl ?_
  refine r_if_le C (tgt := 39) dX0_fallsOn_28 rfl hf (fun hf => ?_) (fun hf => ?_)
  · refine r_iconst C dX0_fallsOn_39 ki_0 ?_
    refine r_istore C dX0_fallsOn_40 (Nat.le_of_ble_eq_true rfl) (lv2 := [(4, .int (0 : Int32)), (3, .int t_2), (2, .int t_1), (0, .ref (A j)), (1, .int x1)]) rfl ?_
    exact r_sub [3, 2, 0] rfl (w_X0_fallsOn_42 hj C K hret t_1 (0 : Int32) hf)
  · refine r_iload_n C dX0_fallsOn_31 3 rfl rfl ?_
    refine r_iconst C dX0_fallsOn_32 ki_1 ?_
    refine r_isub C dX0_fallsOn_33 ?_
    refine r_iload_n C dX0_fallsOn_34 0 rfl rfl ?_
    refine gd_ni hf (fun hne hf => ?_)
    refine p_irem C dX0_fallsOn_35 hne ?_
    refine r_goto C (tgt := 40) dX0_fallsOn_36 rfl ?_
    refine r_istore C dX0_fallsOn_40 (Nat.le_of_ble_eq_true rfl) (lv2 := [(4, .int (irem (x1 - (1 : Int32)) t_2)), (3, .int t_2), (2, .int t_1), (0, .ref (A j)), (1, .int x1)]) rfl ?_
    exact r_sub [3, 2, 0] rfl (w_X0_fallsOn_42 hj C K hret t_1 (irem (x1 - (1 : Int32)) t_2) hf)
theorem t_X0_fallsOn (l : Launch) {E : EvT} {A : Nat → Nat} {V : Nat → Nat → Int32} {L : Nat → Int64} {j : Nat} (hj : isCirc j) {c : Nat → Int32} (x1 : Int32) {r0 : Int32} (hq : f_X0_fallsOn c x1 = some r0) : KI l yX0_fallsOn (.code yX0_fallsOn cX0_fallsOn 7 (some .int) :: wA) rm_X0_fallsOn E (cw E A (setc V j c) L) (cw E A (setc V j c) L) [.ref (A j), .int x1] r0 := by
  refine ent_I (own := RX0) (ty := .int) (lv0 := [(0, .ref (A j)), (1, .int x1)]) (by decide) rfl rfl (Nat.le_of_ble_eq_true rfl) rfl (cw_fst _ _ _ _ _ _) ?_
  intro X Z Q hl C K hret
  exact w_X0_fallsOn_0 hj C K hret  x1 hq
set_option maxRecDepth 100000 in
theorem w_X0_slipOn_97 {X : XT} {E : EvT} {Z : Nat → Prop} {Q : State → Prop} {A : Nat → Nat} {V : Nat → Nat → Int32} {L : Nat → Int64} {j : Nat} (hj : isCirc j) (C : Cx X (.code yX0_slipOn cX0_slipOn 6 (some .int)) cX0_slipOn 6 RX0 rm_X0_slipOn.frames rm_X0_slipOn.locals) (K : Ck X E Z) {r0 : Int32} {c0 : Nat → Int32} (hret : RI X 6 cX0_slipOn (IC X E Z A V L j) Q .int r0 c0) {k17 : (Nat → Int32) → Int32 → Int32 → Option (Int32 × (Nat → Int32))} {x2 : Int32} (hk17 : ∀ (c : Nat → Int32) (x3 : Int32) (x4 : Int32), k17 c x3 x4 = some (r0, c0) → Wm X 6 (IC X E Z A V L j) Q 17 [(0, .ref (A j)), (2, .int x2), (3, .int x3), (4, .int x4)] [] c) : ∀ (c : Nat → Int32) (x3 : Int32) (x4 : Int32), f_X0_slipOn_97 k17 c x2 x3 x4 = some (r0, c0) → Wm X 6 (IC X E Z A V L j) Q 97 [(0, .ref (A j)), (2, .int x2), (3, .int x3), (4, .int x4)] [] c := by
  intro c x3 x4 hf
  rw [f_X0_slipOn_97] at hf
  refine r_aload_n C dX0_slipOn_97 0 rfl rfl ?_
  refine r_iload_n C dX0_slipOn_98 1 rfl rfl ?_
  refine r_iload_n C dX0_slipOn_99 2 rfl rfl ?_
  refine bd1_e hf (fun r_1 hq hf => ?_)
  refine c_callI C K hj cal_RX0_67 ⟨rfl, rfl, Nat.le_of_ble_eq_true rfl, Nat.le_of_ble_eq_true rfl⟩ (t_X0_nextOf _ hj x2 x3 hq) rfl (rest := []) rfl (Nat.le_of_ble_eq_true rfl) dX0_slipOn_100 ?_
  refine r_istore_n C dX0_slipOn_103 rfl (Nat.le_of_ble_eq_true rfl) (lv2 := [(3, .int r_1), (0, .ref (A j)), (2, .int x2), (4, .int x4)]) rfl ?_
  refine r_iinc C dX0_slipOn_104 3 rfl (kn_1 _) (Nat.le_of_ble_eq_true rfl) (lv2 := [(4, .int (x4 + 1)), (3, .int r_1), (0, .ref (A j)), (2, .int x2)]) rfl ?_
  refine r_goto C (tgt := 17) dX0_slipOn_107 rfl ?_
  exact r_sub [2, 3, 1, 0] rfl (hk17 c r_1 (x4 + 1) hf)
set_option maxRecDepth 100000 in
theorem w_X0_slipOn_17 {X : XT} {E : EvT} {Z : Nat → Prop} {Q : State → Prop} {A : Nat → Nat} {V : Nat → Nat → Int32} {L : Nat → Int64} {j : Nat} (hj : isCirc j) (C : Cx X (.code yX0_slipOn cX0_slipOn 6 (some .int)) cX0_slipOn 6 RX0 rm_X0_slipOn.frames rm_X0_slipOn.locals) (K : Ck X E Z) {r0 : Int32} {c0 : Nat → Int32} (hret : RI X 6 cX0_slipOn (IC X E Z A V L j) Q .int r0 c0) (x2 : Int32) : ∀ (n : Nat) (c : Nat → Int32) (x3 : Int32) (x4 : Int32), f_X0_slipOn_17 x2 n c x3 x4 = some (r0, c0) → Wm X 6 (IC X E Z A V L j) Q 17 [(0, .ref (A j)), (2, .int x2), (3, .int x3), (4, .int x4)] [] c := by
  intro n
  induction n with
  | zero =>
    intro c x3 x4 hf
    exact none_e hf
  | succ n ih =>
    intro c x3 x4 hf
    rw [f_X0_slipOn_17] at hf
    refine r_iload C dX0_slipOn_17 3 rfl ?_
    refine r_aload_n C dX0_slipOn_19 0 rfl rfl ?_
    refine gC_RX0_9 hj C K dX0_slipOn_20 ?_
    refine r_icmp_ge C (tgt := 110) dX0_slipOn_23 rfl hf (fun hf => ?_) (fun hf => ?_)
    · refine r_iload_n C dX0_slipOn_110 2 rfl rfl ?_
      exact ri_OW hret hf dX0_slipOn_111 rfl
    · refine r_iconst C dX0_slipOn_26 ki_1 ?_
      refine r_iload_n C dX0_slipOn_27 2 rfl rfl ?_
      refine p_ishl C dX0_slipOn_28 ?_
      refine r_istore C dX0_slipOn_29 (Nat.le_of_ble_eq_true rfl) (lv2 := [(5, .int (ishl (1 : Int32) x3)), (0, .ref (A j)), (2, .int x2), (3, .int x3), (4, .int x4)]) rfl ?_
      refine r_aload_n C dX0_slipOn_31 1 rfl rfl ?_
      refine gC_RX0_21 hj C K dX0_slipOn_32 ?_
      refine r_aload_n C dX0_slipOn_35 1 rfl rfl ?_
      refine gC_RX0_30 hj C K dX0_slipOn_36 ?_
      refine r_iconst C dX0_slipOn_39 ki_m1 ?_
      refine r_ixor C dX0_slipOn_40 ?_
      refine r_iand C dX0_slipOn_41 ?_
      refine r_iload C dX0_slipOn_42 0 rfl ?_
      refine r_iand C dX0_slipOn_44 ?_
      refine r_if_eq C (tgt := 110) dX0_slipOn_45 rfl hf (fun hf => ?_) (fun hf => ?_)
      · refine r_iload_n C dX0_slipOn_110 3 rfl rfl ?_
        exact ri_OW hret hf dX0_slipOn_111 rfl
      · refine r_iload_n C dX0_slipOn_48 2 rfl rfl ?_
        refine r_iload C dX0_slipOn_49 0 rfl ?_
        refine r_iconst C dX0_slipOn_51 ki_m1 ?_
        refine r_ixor C dX0_slipOn_52 ?_
        refine r_iand C dX0_slipOn_53 ?_
        refine r_if_ne C (tgt := 60) dX0_slipOn_54 rfl hf (fun hf => ?_) (fun hf => ?_)
        · refine r_aload_n C dX0_slipOn_60 1 rfl rfl ?_
          refine r_dup C dX0_slipOn_61 rfl ?_
          refine gC_RX0_30 hj C K dX0_slipOn_62 ?_
          refine r_iload C dX0_slipOn_65 0 rfl ?_
          refine r_ior C dX0_slipOn_67 ?_
          refine pC_RX0_30 hj C K dX0_slipOn_68 hf (fun c_1 hf => ?_)
          refine r_aload_n C dX0_slipOn_71 1 rfl rfl ?_
          refine gC_RX0_24 hj C K dX0_slipOn_72 ?_
          refine r_iload C dX0_slipOn_75 0 rfl ?_
          refine r_iand C dX0_slipOn_77 ?_
          refine r_if_eq C (tgt := 97) dX0_slipOn_78 rfl hf (fun hf => ?_) (fun hf => ?_)
          · exact r_sub [1, 2, 3, 4] rfl (w_X0_slipOn_97 hj C K hret ih c_1 x3 x4 hf)
          · refine r_aload_n C dX0_slipOn_81 1 rfl rfl ?_
            refine r_aload_n C dX0_slipOn_82 1 rfl rfl ?_
            refine gC_RX0_36 hj C K dX0_slipOn_83 ?_
            refine r_if_ne C (tgt := 93) dX0_slipOn_86 rfl hf (fun hf => ?_) (fun hf => ?_)
            · refine r_iconst C dX0_slipOn_93 ki_0 ?_
              refine pC_RX0_36 hj rfl C K dX0_slipOn_94 hf (fun c_2 hf => ?_)
              exact r_sub [1, 2, 3, 4] rfl (w_X0_slipOn_97 hj C K hret ih c_2 x3 x4 hf)
            · refine r_iconst C dX0_slipOn_89 ki_1 ?_
              refine r_goto C (tgt := 94) dX0_slipOn_90 rfl ?_
              refine pC_RX0_36 hj rfl C K dX0_slipOn_94 hf (fun c_3 hf => ?_)
              exact r_sub [1, 2, 3, 4] rfl (w_X0_slipOn_97 hj C K hret ih c_3 x3 x4 hf)
        · refine r_goto C (tgt := 110) dX0_slipOn_57 rfl ?_
          refine r_iload_n C dX0_slipOn_110 3 rfl rfl ?_
          exact ri_OW hret hf dX0_slipOn_111 rfl
set_option maxRecDepth 100000 in
theorem w_X0_slipOn_0 {X : XT} {E : EvT} {Z : Nat → Prop} {Q : State → Prop} {A : Nat → Nat} {V : Nat → Nat → Int32} {L : Nat → Int64} {j : Nat} (hj : isCirc j) (C : Cx X (.code yX0_slipOn cX0_slipOn 6 (some .int)) cX0_slipOn 6 RX0 rm_X0_slipOn.frames rm_X0_slipOn.locals) (K : Ck X E Z) {r0 : Int32} {c0 : Nat → Int32} (hret : RI X 6 cX0_slipOn (IC X E Z A V L j) Q .int r0 c0) : ∀ (c : Nat → Int32) (x1 : Int32), f_X0_slipOn c x1 = some (r0, c0) → Wm X 6 (IC X E Z A V L j) Q 0 [(0, .ref (A j)), (1, .int x1)] [] c := by
  intro c x1 hf
  rw [f_X0_slipOn] at hf
  refine r_aload_n C dX0_slipOn_0 0 rfl rfl ?_
  refine gC_RX0_27 hj C K dX0_slipOn_1 ?_
  refine r_aload_n C dX0_slipOn_4 0 rfl rfl ?_
  refine gC_RX0_18 hj C K dX0_slipOn_5 ?_
  refine r_iconst C dX0_slipOn_8 ki_m1 ?_
  refine r_ixor C dX0_slipOn_9 ?_
  refine r_iand C dX0_slipOn_10 ?_
  refine b_int hf (fun t_1 hf => ?_)
  refine r_istore_n C dX0_slipOn_11 rfl (Nat.le_of_ble_eq_true rfl) (lv2 := [(2, .int t_1), (0, .ref (A j)), (1, .int x1)]) rfl ?_
  refine r_iload_n C dX0_slipOn_12 2 rfl rfl ?_
  refine r_istore_n C dX0_slipOn_13 rfl (Nat.le_of_ble_eq_true rfl) (lv2 := [(3, .int x1), (2, .int t_1), (0, .ref (A j)), (1, .int x1)]) rfl ?_
  refine r_iconst C dX0_slipOn_14 ki_0 ?_
  refine r_istore C dX0_slipOn_15 (Nat.le_of_ble_eq_true rfl) (lv2 := [(4, .int (0 : Int32)), (3, .int x1), (2, .int t_1), (0, .ref (A j)), (1, .int x1)]) rfl ?_
  exact r_sub [3, 2, 1, 0] rfl (w_X0_slipOn_17 hj C K hret t_1 20000 c x1 (0 : Int32) hf)
theorem t_X0_slipOn (l : Launch) {E : EvT} {A : Nat → Nat} {V : Nat → Nat → Int32} {L : Nat → Int64} {j : Nat} (hj : isCirc j) {c : Nat → Int32} (x1 : Int32) {r0 : Int32} {c0 : Nat → Int32} (hq : f_X0_slipOn c x1 = some (r0, c0)) : KI l yX0_slipOn (.code yX0_slipOn cX0_slipOn 6 (some .int) :: wA) rm_X0_slipOn E (cw E A (setc V j c) L) (cw E A (setc V j c0) L) [.ref (A j), .int x1] r0 := by
  refine ent_I (own := RX0) (ty := .int) (lv0 := [(0, .ref (A j)), (1, .int x1)]) (by decide) rfl rfl (Nat.le_of_ble_eq_true rfl) rfl (cw_fst _ _ _ _ _ _) ?_
  intro X Z Q hl C K hret
  exact w_X0_slipOn_0 hj C K hret c x1 hq
set_option maxRecDepth 100000 in
theorem w_X0_putOut_0 {X : XT} {E : EvT} {Z : Nat → Prop} {Q : State → Prop} {A : Nat → Nat} {V : Nat → Nat → Int32} {L : Nat → Int64} {j : Nat} (hj : isCirc j) (C : Cx X (.code yX0_putOut cX0_putOut 3 (some .int)) cX0_putOut 3 RX0 rm_X0_putOut.frames rm_X0_putOut.locals) (K : Ck X E Z) {r0 : Int32} {c0 : Nat → Int32} (hret : RI X 3 cX0_putOut (IC X E Z A V L j) Q .int r0 c0) : ∀ (c : Nat → Int32) (x1 : Int32), f_X0_putOut c x1 = some (r0, c0) → Wm X 3 (IC X E Z A V L j) Q 0 [(0, .ref (A j)), (1, .int x1)] [] c := by
  intro c x1 hf
  rw [f_X0_putOut] at hf
  refine r_aload_n C dX0_putOut_0 0 rfl rfl ?_
  refine c_callI C K hj cal_RX0_57 ⟨rfl, rfl, Nat.le_of_ble_eq_true rfl, Nat.le_of_ble_eq_true rfl⟩ (t_X0_canCount _ hj) rfl (rest := []) rfl (Nat.le_of_ble_eq_true rfl) dX0_putOut_1 ?_
  refine r_if_ne C (tgt := 9) dX0_putOut_4 rfl hf (fun hf => ?_) (fun hf => ?_)
  · refine r_aload_n C dX0_putOut_9 0 rfl rfl ?_
    refine r_aload_n C dX0_putOut_10 0 rfl rfl ?_
    refine r_iload_n C dX0_putOut_11 1 rfl rfl ?_
    refine bd1_e hf (fun r_1 hq hf => ?_)
    refine c_callI C K hj cal_RX0_61 ⟨rfl, rfl, Nat.le_of_ble_eq_true rfl, Nat.le_of_ble_eq_true rfl⟩ (t_X0_fallsOn _ hj x1 hq) rfl (rest := [.ref (A j)]) rfl (Nat.le_of_ble_eq_true rfl) dX0_putOut_12 ?_
    refine bd2_e hf (fun r_2 c_3 hq hf => ?_)
    refine c_callI C K hj cal_RX0_64 ⟨rfl, rfl, Nat.le_of_ble_eq_true rfl, Nat.le_of_ble_eq_true rfl⟩ (t_X0_slipOn _ hj r_1 hq) rfl (rest := []) rfl (Nat.le_of_ble_eq_true rfl) dX0_putOut_15 ?_
    refine r_istore_n C dX0_putOut_18 rfl (Nat.le_of_ble_eq_true rfl) (lv2 := [(2, .int r_2), (0, .ref (A j)), (1, .int x1)]) rfl ?_
    refine r_aload_n C dX0_putOut_19 1 rfl rfl ?_
    refine r_dup C dX0_putOut_20 rfl ?_
    refine gC_RX0_27 hj C K dX0_putOut_21 ?_
    refine r_iconst C dX0_putOut_24 ki_1 ?_
    refine r_iload_n C dX0_putOut_25 0 rfl rfl ?_
    refine p_ishl C dX0_putOut_26 ?_
    refine r_iconst C dX0_putOut_27 ki_m1 ?_
    refine r_ixor C dX0_putOut_28 ?_
    refine r_iand C dX0_putOut_29 ?_
    refine pC_RX0_27 hj C K dX0_putOut_30 hf (fun c_4 hf => ?_)
    refine r_aload_n C dX0_putOut_33 1 rfl rfl ?_
    refine r_aload_n C dX0_putOut_34 1 rfl rfl ?_
    refine r_aload_n C dX0_putOut_35 1 rfl rfl ?_
    refine gC_RX0_27 hj C K dX0_putOut_36 ?_
    refine r_iload_n C dX0_putOut_39 0 rfl rfl ?_
    refine bd1_e hf (fun r_5 hq hf => ?_)
    refine c_callI C K hj cal_RX0_67 ⟨rfl, rfl, Nat.le_of_ble_eq_true rfl, Nat.le_of_ble_eq_true rfl⟩ (t_X0_nextOf _ hj (c_4 5) r_2 hq) rfl (rest := [.ref (A j)]) rfl (Nat.le_of_ble_eq_true rfl) dX0_putOut_40 ?_
    refine pC_RX0_33 hj C K dX0_putOut_43 hf (fun c_6 hf => ?_)
    refine r_iload_n C dX0_putOut_46 0 rfl rfl ?_
    exact ri_OW hret hf dX0_putOut_47 rfl
  · refine r_iconst C dX0_putOut_7 ki_m1 ?_
    exact ri_OW hret hf dX0_putOut_8 rfl
theorem t_X0_putOut (l : Launch) {E : EvT} {A : Nat → Nat} {V : Nat → Nat → Int32} {L : Nat → Int64} {j : Nat} (hj : isCirc j) {c : Nat → Int32} (x1 : Int32) {r0 : Int32} {c0 : Nat → Int32} (hq : f_X0_putOut c x1 = some (r0, c0)) : KI l yX0_putOut (.code yX0_putOut cX0_putOut 3 (some .int) :: wA) rm_X0_putOut E (cw E A (setc V j c) L) (cw E A (setc V j c0) L) [.ref (A j), .int x1] r0 := by
  refine ent_I (own := RX0) (ty := .int) (lv0 := [(0, .ref (A j)), (1, .int x1)]) (by decide) rfl rfl (Nat.le_of_ble_eq_true rfl) rfl (cw_fst _ _ _ _ _ _) ?_
  intro X Z Q hl C K hret
  exact w_X0_putOut_0 hj C K hret c x1 hq
set_option maxRecDepth 100000 in
theorem w_J6_numberOfTrailingZeros_0f7a4_74 {X : XT} {Q : State → Prop} (C : Cx X (.code yJ6_numberOfTrailingZeros_0f7a4 cJ6_numberOfTrailingZeros_0f7a4 2 (some .int)) cJ6_numberOfTrailingZeros_0f7a4 2 RJ6 rm_J6_numberOfTrailingZeros_0f7a4.frames rm_J6_numberOfTrailingZeros_0f7a4.locals) {r0 : Int32} (hret : RI X 2 cJ6_numberOfTrailingZeros_0f7a4 (IP X) Q .int r0 ()) : ∀ (x0 : Int32) (x1 : Int32), f_J6_numberOfTrailingZeros_0f7a4_74 x0 x1 = r0 → Wm X 2 (IP X) Q 74 [(0, .int x0), (1, .int x1)] [] () := by
  intro x0 x1 hf
  rw [f_J6_numberOfTrailingZeros_0f7a4_74] at hf
  refine r_iload_n C dJ6_numberOfTrailingZeros_0f7a4_74 1 rfl rfl ?_
  refine r_iload_n C dJ6_numberOfTrailingZeros_0f7a4_75 0 rfl rfl ?_
  refine r_iconst C dJ6_numberOfTrailingZeros_0f7a4_76 ki_1 ?_
  refine p_iushr C dJ6_numberOfTrailingZeros_0f7a4_77 ?_
  refine r_iadd C dJ6_numberOfTrailingZeros_0f7a4_78 ?_
  exact ri_T hret hf dJ6_numberOfTrailingZeros_0f7a4_79 rfl
set_option maxRecDepth 100000 in
theorem w_J6_numberOfTrailingZeros_0f7a4_62 {X : XT} {Q : State → Prop} (C : Cx X (.code yJ6_numberOfTrailingZeros_0f7a4 cJ6_numberOfTrailingZeros_0f7a4 2 (some .int)) cJ6_numberOfTrailingZeros_0f7a4 2 RJ6 rm_J6_numberOfTrailingZeros_0f7a4.frames rm_J6_numberOfTrailingZeros_0f7a4.locals) {r0 : Int32} (hret : RI X 2 cJ6_numberOfTrailingZeros_0f7a4 (IP X) Q .int r0 ()) : ∀ (x0 : Int32) (x1 : Int32), f_J6_numberOfTrailingZeros_0f7a4_62 x0 x1 = r0 → Wm X 2 (IP X) Q 62 [(0, .int x0), (1, .int x1)] [] () := by
  intro x0 x1 hf
  rw [f_J6_numberOfTrailingZeros_0f7a4_62] at hf
  refine r_iload_n C dJ6_numberOfTrailingZeros_0f7a4_62 0 rfl rfl ?_
  refine r_iconst C dJ6_numberOfTrailingZeros_0f7a4_63 ki_4 ?_
  refine r_icmp_le C (tgt := 74) dJ6_numberOfTrailingZeros_0f7a4_64 rfl hf (fun hf => ?_) (fun hf => ?_)
  · exact r_sub [0, 1] rfl (w_J6_numberOfTrailingZeros_0f7a4_74 C hret x0 x1 hf)
  · refine r_iinc C dJ6_numberOfTrailingZeros_0f7a4_67 1 rfl (kn_2 _) (Nat.le_of_ble_eq_true rfl) (lv2 := [(1, .int (x1 + 2)), (0, .int x0)]) rfl ?_
    refine r_iload_n C dJ6_numberOfTrailingZeros_0f7a4_70 1 rfl rfl ?_
    refine r_iconst C dJ6_numberOfTrailingZeros_0f7a4_71 ki_2 ?_
    refine p_iushr C dJ6_numberOfTrailingZeros_0f7a4_72 ?_
    refine r_istore_n C dJ6_numberOfTrailingZeros_0f7a4_73 rfl (Nat.le_of_ble_eq_true rfl) (lv2 := [(0, .int (iushr x0 (2 : Int32))), (1, .int (x1 + 2))]) rfl ?_
    exact r_sub [0, 1] rfl (w_J6_numberOfTrailingZeros_0f7a4_74 C hret (iushr x0 (2 : Int32)) (x1 + 2) hf)
set_option maxRecDepth 100000 in
theorem w_J6_numberOfTrailingZeros_0f7a4_49 {X : XT} {Q : State → Prop} (C : Cx X (.code yJ6_numberOfTrailingZeros_0f7a4 cJ6_numberOfTrailingZeros_0f7a4 2 (some .int)) cJ6_numberOfTrailingZeros_0f7a4 2 RJ6 rm_J6_numberOfTrailingZeros_0f7a4.frames rm_J6_numberOfTrailingZeros_0f7a4.locals) {r0 : Int32} (hret : RI X 2 cJ6_numberOfTrailingZeros_0f7a4 (IP X) Q .int r0 ()) : ∀ (x0 : Int32) (x1 : Int32), f_J6_numberOfTrailingZeros_0f7a4_49 x0 x1 = r0 → Wm X 2 (IP X) Q 49 [(0, .int x0), (1, .int x1)] [] () := by
  intro x0 x1 hf
  rw [f_J6_numberOfTrailingZeros_0f7a4_49] at hf
  refine r_iload_n C dJ6_numberOfTrailingZeros_0f7a4_49 0 rfl rfl ?_
  refine r_bipush C dJ6_numberOfTrailingZeros_0f7a4_50 kb_16 ?_
  refine r_icmp_le C (tgt := 62) dJ6_numberOfTrailingZeros_0f7a4_52 rfl hf (fun hf => ?_) (fun hf => ?_)
  · exact r_sub [0, 1] rfl (w_J6_numberOfTrailingZeros_0f7a4_62 C hret x0 x1 hf)
  · refine r_iinc C dJ6_numberOfTrailingZeros_0f7a4_55 1 rfl (kn_4 _) (Nat.le_of_ble_eq_true rfl) (lv2 := [(1, .int (x1 + 4)), (0, .int x0)]) rfl ?_
    refine r_iload_n C dJ6_numberOfTrailingZeros_0f7a4_58 1 rfl rfl ?_
    refine r_iconst C dJ6_numberOfTrailingZeros_0f7a4_59 ki_4 ?_
    refine p_iushr C dJ6_numberOfTrailingZeros_0f7a4_60 ?_
    refine r_istore_n C dJ6_numberOfTrailingZeros_0f7a4_61 rfl (Nat.le_of_ble_eq_true rfl) (lv2 := [(0, .int (iushr x0 (4 : Int32))), (1, .int (x1 + 4))]) rfl ?_
    exact r_sub [0, 1] rfl (w_J6_numberOfTrailingZeros_0f7a4_62 C hret (iushr x0 (4 : Int32)) (x1 + 4) hf)
set_option maxRecDepth 100000 in
theorem w_J6_numberOfTrailingZeros_0f7a4_34 {X : XT} {Q : State → Prop} (C : Cx X (.code yJ6_numberOfTrailingZeros_0f7a4 cJ6_numberOfTrailingZeros_0f7a4 2 (some .int)) cJ6_numberOfTrailingZeros_0f7a4 2 RJ6 rm_J6_numberOfTrailingZeros_0f7a4.frames rm_J6_numberOfTrailingZeros_0f7a4.locals) {r0 : Int32} (hret : RI X 2 cJ6_numberOfTrailingZeros_0f7a4 (IP X) Q .int r0 ()) : ∀ (x0 : Int32) (x1 : Int32), f_J6_numberOfTrailingZeros_0f7a4_34 x0 x1 = r0 → Wm X 2 (IP X) Q 34 [(0, .int x0), (1, .int x1)] [] () := by
  intro x0 x1 hf
  rw [f_J6_numberOfTrailingZeros_0f7a4_34] at hf
  refine r_iload_n C dJ6_numberOfTrailingZeros_0f7a4_34 0 rfl rfl ?_
  refine r_sipush C dJ6_numberOfTrailingZeros_0f7a4_35 ks_256 ?_
  refine r_icmp_le C (tgt := 49) dJ6_numberOfTrailingZeros_0f7a4_38 rfl hf (fun hf => ?_) (fun hf => ?_)
  · exact r_sub [0, 1] rfl (w_J6_numberOfTrailingZeros_0f7a4_49 C hret x0 x1 hf)
  · refine r_iinc C dJ6_numberOfTrailingZeros_0f7a4_41 1 rfl (kn_8 _) (Nat.le_of_ble_eq_true rfl) (lv2 := [(1, .int (x1 + 8)), (0, .int x0)]) rfl ?_
    refine r_iload_n C dJ6_numberOfTrailingZeros_0f7a4_44 1 rfl rfl ?_
    refine r_bipush C dJ6_numberOfTrailingZeros_0f7a4_45 kb_8 ?_
    refine p_iushr C dJ6_numberOfTrailingZeros_0f7a4_47 ?_
    refine r_istore_n C dJ6_numberOfTrailingZeros_0f7a4_48 rfl (Nat.le_of_ble_eq_true rfl) (lv2 := [(0, .int (iushr x0 (8 : Int32))), (1, .int (x1 + 8))]) rfl ?_
    exact r_sub [0, 1] rfl (w_J6_numberOfTrailingZeros_0f7a4_49 C hret (iushr x0 (8 : Int32)) (x1 + 8) hf)
set_option maxRecDepth 100000 in
theorem w_J6_numberOfTrailingZeros_0f7a4_0 {X : XT} {Q : State → Prop} (C : Cx X (.code yJ6_numberOfTrailingZeros_0f7a4 cJ6_numberOfTrailingZeros_0f7a4 2 (some .int)) cJ6_numberOfTrailingZeros_0f7a4 2 RJ6 rm_J6_numberOfTrailingZeros_0f7a4.frames rm_J6_numberOfTrailingZeros_0f7a4.locals) {r0 : Int32} (hret : RI X 2 cJ6_numberOfTrailingZeros_0f7a4 (IP X) Q .int r0 ()) : ∀ (x0 : Int32), f_J6_numberOfTrailingZeros_0f7a4 x0 = r0 → Wm X 2 (IP X) Q 0 [(0, .int x0)] [] () := by
  intro x0 hf
  rw [f_J6_numberOfTrailingZeros_0f7a4] at hf
  refine r_iload_n C dJ6_numberOfTrailingZeros_0f7a4_0 0 rfl rfl ?_
  refine r_iconst C dJ6_numberOfTrailingZeros_0f7a4_1 ki_m1 ?_
  refine r_ixor C dJ6_numberOfTrailingZeros_0f7a4_2 ?_
  refine r_iload_n C dJ6_numberOfTrailingZeros_0f7a4_3 0 rfl rfl ?_
  refine r_iconst C dJ6_numberOfTrailingZeros_0f7a4_4 ki_1 ?_
  refine r_isub C dJ6_numberOfTrailingZeros_0f7a4_5 ?_
  refine r_iand C dJ6_numberOfTrailingZeros_0f7a4_6 ?_
  refine b_int hf (fun t_1 hf => ?_)
  refine r_istore_n C dJ6_numberOfTrailingZeros_0f7a4_7 rfl (Nat.le_of_ble_eq_true rfl) (lv2 := [(0, .int t_1)]) rfl ?_
  refine r_iload_n C dJ6_numberOfTrailingZeros_0f7a4_8 0 rfl rfl ?_
  refine r_if_gt C (tgt := 17) dJ6_numberOfTrailingZeros_0f7a4_9 rfl hf (fun hf => ?_) (fun hf => ?_)
  · refine r_iconst C dJ6_numberOfTrailingZeros_0f7a4_17 ki_1 ?_
    refine r_istore_n C dJ6_numberOfTrailingZeros_0f7a4_18 rfl (Nat.le_of_ble_eq_true rfl) (lv2 := [(1, .int (1 : Int32)), (0, .int t_1)]) rfl ?_
    refine r_iload_n C dJ6_numberOfTrailingZeros_0f7a4_19 1 rfl rfl ?_
    refine r_ldcw C q_k_RJ6_264 dJ6_numberOfTrailingZeros_0f7a4_20 ?_
    refine r_icmp_le C (tgt := 34) dJ6_numberOfTrailingZeros_0f7a4_23 rfl hf (fun hf => ?_) (fun hf => ?_)
    · exact r_sub [1, 0] rfl (w_J6_numberOfTrailingZeros_0f7a4_34 C hret t_1 (1 : Int32) hf)
    · refine r_iinc C dJ6_numberOfTrailingZeros_0f7a4_26 0 rfl (kn_16 _) (Nat.le_of_ble_eq_true rfl) (lv2 := [(1, .int ((1 : Int32) + 16)), (0, .int t_1)]) rfl ?_
      refine r_iload_n C dJ6_numberOfTrailingZeros_0f7a4_29 1 rfl rfl ?_
      refine r_bipush C dJ6_numberOfTrailingZeros_0f7a4_30 kb_16 ?_
      refine p_iushr C dJ6_numberOfTrailingZeros_0f7a4_32 ?_
      refine r_istore_n C dJ6_numberOfTrailingZeros_0f7a4_33 rfl (Nat.le_of_ble_eq_true rfl) (lv2 := [(0, .int (iushr t_1 (16 : Int32))), (1, .int ((1 : Int32) + 16))]) rfl ?_
      exact r_sub [0, 1] rfl (w_J6_numberOfTrailingZeros_0f7a4_34 C hret (iushr t_1 (16 : Int32)) ((1 : Int32) + 16) hf)
  · refine r_iload_n C dJ6_numberOfTrailingZeros_0f7a4_12 0 rfl rfl ?_
    refine r_bipush C dJ6_numberOfTrailingZeros_0f7a4_13 kb_32 ?_
    refine r_iand C dJ6_numberOfTrailingZeros_0f7a4_15 ?_
    exact ri_T hret hf dJ6_numberOfTrailingZeros_0f7a4_16 rfl
theorem t_J6_numberOfTrailingZeros_0f7a4 (l : Launch) (x0 : Int32) : KP l yJ6_numberOfTrailingZeros_0f7a4 (.code yJ6_numberOfTrailingZeros_0f7a4 cJ6_numberOfTrailingZeros_0f7a4 2 (some .int) :: wA) rm_J6_numberOfTrailingZeros_0f7a4 [.int x0] (f_J6_numberOfTrailingZeros_0f7a4 x0) := by
  refine ent_P (own := RJ6) (ty := .int) (lv0 := [(0, .int x0)]) (by decide) rfl rfl (Nat.le_of_ble_eq_true rfl) rfl ?_
  intro X Q hl C hret
  exact w_J6_numberOfTrailingZeros_0f7a4_0 C hret x0 rfl
set_option maxRecDepth 100000 in
theorem w_X0_onlyOneIn_0 {X : XT} {E : EvT} {Z : Nat → Prop} {Q : State → Prop} {A : Nat → Nat} {V : Nat → Nat → Int32} {L : Nat → Int64} {j : Nat} (hj : isCirc j) (C : Cx X (.code yX0_onlyOneIn cX0_onlyOneIn 1 (some .int)) cX0_onlyOneIn 1 RX0 rm_X0_onlyOneIn.frames rm_X0_onlyOneIn.locals) (K : Ck X E Z) {r0 : Int32} {c : Nat → Int32} (hret : RI X 1 cX0_onlyOneIn (IC X E Z A V L j) Q .int r0 c) : f_X0_onlyOneIn c = r0 → Wm X 1 (IC X E Z A V L j) Q 0 [(0, .ref (A j))] [] c := by
  intro  hf
  rw [f_X0_onlyOneIn] at hf
  refine r_aload_n C dX0_onlyOneIn_0 0 rfl rfl ?_
  refine gC_RX0_27 hj C K dX0_onlyOneIn_1 ?_
  refine r_callP C cas_RX0_48 ⟨rfl, rfl, Nat.le_of_ble_eq_true rfl, Nat.le_of_ble_eq_true rfl⟩ (t_J6_bitCount_0f7a4 _ (c 5)) rfl (rest := []) rfl (Nat.le_of_ble_eq_true rfl) dX0_onlyOneIn_4 ?_
  refine r_iconst C dX0_onlyOneIn_7 ki_1 ?_
  refine r_icmp_ne C (tgt := 21) dX0_onlyOneIn_8 rfl hf (fun hf => ?_) (fun hf => ?_)
  · refine r_iconst C dX0_onlyOneIn_21 ki_m1 ?_
    exact ri_T hret hf dX0_onlyOneIn_22 rfl
  · refine r_aload_n C dX0_onlyOneIn_11 0 rfl rfl ?_
    refine gC_RX0_27 hj C K dX0_onlyOneIn_12 ?_
    refine r_callP C cas_RX0_54 ⟨rfl, rfl, Nat.le_of_ble_eq_true rfl, Nat.le_of_ble_eq_true rfl⟩ (t_J6_numberOfTrailingZeros_0f7a4 _ (c 5)) rfl (rest := []) rfl (Nat.le_of_ble_eq_true rfl) dX0_onlyOneIn_15 ?_
    refine r_goto C (tgt := 22) dX0_onlyOneIn_18 rfl ?_
    exact ri_T hret hf dX0_onlyOneIn_22 rfl
theorem t_X0_onlyOneIn (l : Launch) {E : EvT} {A : Nat → Nat} {V : Nat → Nat → Int32} {L : Nat → Int64} {j : Nat} (hj : isCirc j) {c : Nat → Int32} : KI l yX0_onlyOneIn (.code yX0_onlyOneIn cX0_onlyOneIn 1 (some .int) :: wA) rm_X0_onlyOneIn E (cw E A (setc V j c) L) (cw E A (setc V j c) L) [.ref (A j)] (f_X0_onlyOneIn c) := by
  refine ent_I (own := RX0) (ty := .int) (lv0 := [(0, .ref (A j))]) (by decide) rfl rfl (Nat.le_of_ble_eq_true rfl) rfl (cw_fst _ _ _ _ _ _) ?_
  intro X Z Q hl C K hret
  exact w_X0_onlyOneIn_0 hj C K hret   rfl
set_option maxRecDepth 100000 in
theorem w_X0_countDown_29 {X : XT} {E : EvT} {Z : Nat → Prop} {Q : State → Prop} {A : Nat → Nat} {V : Nat → Nat → Int32} {L : Nat → Int64} {j : Nat} (hj : isCirc j) (C : Cx X (.code yX0_countDown cX0_countDown 3 (some .int)) cX0_countDown 3 RX0 rm_X0_countDown.frames rm_X0_countDown.locals) (K : Ck X E Z) {r0 : Int32} {c0 : Nat → Int32} (hret : RI X 3 cX0_countDown (IC X E Z A V L j) Q .int r0 c0) : ∀ (c : Nat → Int32), f_X0_countDown_29 c = some (r0, c0) → Wm X 3 (IC X E Z A V L j) Q 29 [(0, .ref (A j))] [] c := by
  intro c hf
  rw [f_X0_countDown_29] at hf
  refine r_aload_n C dX0_countDown_29 0 rfl rfl ?_
  refine c_callI C K hj cal_RX0_73 ⟨rfl, rfl, Nat.le_of_ble_eq_true rfl, Nat.le_of_ble_eq_true rfl⟩ (t_X0_onlyOneIn _ hj) rfl (rest := []) rfl (Nat.le_of_ble_eq_true rfl) dX0_countDown_30 ?_
  exact ri_OW hret hf dX0_countDown_33 rfl
set_option maxRecDepth 100000 in
theorem w_X0_countDown_2 {X : XT} {E : EvT} {Z : Nat → Prop} {Q : State → Prop} {A : Nat → Nat} {V : Nat → Nat → Int32} {L : Nat → Int64} {j : Nat} (hj : isCirc j) (C : Cx X (.code yX0_countDown cX0_countDown 3 (some .int)) cX0_countDown 3 RX0 rm_X0_countDown.frames rm_X0_countDown.locals) (K : Ck X E Z) {r0 : Int32} {c0 : Nat → Int32} (hret : RI X 3 cX0_countDown (IC X E Z A V L j) Q .int r0 c0) (x1 : Int32) : ∀ (n : Nat) (c : Nat → Int32) (x2 : Int32), f_X0_countDown_2 x1 n c x2 = some (r0, c0) → Wm X 3 (IC X E Z A V L j) Q 2 [(0, .ref (A j)), (1, .int x1), (2, .int x2)] [] c := by
  intro n
  induction n with
  | zero =>
    intro c x2 hf
    exact none_e hf
  | succ n ih =>
    intro c x2 hf
    rw [f_X0_countDown_2] at hf
    refine r_iload_n C dX0_countDown_2 2 rfl rfl ?_
    refine r_aload_n C dX0_countDown_3 0 rfl rfl ?_
    refine gC_RX0_9 hj C K dX0_countDown_4 ?_
    refine r_icmp_ge C (tgt := 29) dX0_countDown_7 rfl hf (fun hf => ?_) (fun hf => ?_)
    · exact r_sub [0] rfl (w_X0_countDown_29 hj C K hret c hf)
    · refine r_aload_n C dX0_countDown_10 0 rfl rfl ?_
      refine c_callI C K hj cal_RX0_57 ⟨rfl, rfl, Nat.le_of_ble_eq_true rfl, Nat.le_of_ble_eq_true rfl⟩ (t_X0_canCount _ hj) rfl (rest := []) rfl (Nat.le_of_ble_eq_true rfl) dX0_countDown_11 ?_
      refine r_if_eq C (tgt := 29) dX0_countDown_14 rfl hf (fun hf => ?_) (fun hf => ?_)
      · exact r_sub [0] rfl (w_X0_countDown_29 hj C K hret c hf)
      · refine r_aload_n C dX0_countDown_17 0 rfl rfl ?_
        refine r_iload_n C dX0_countDown_18 1 rfl rfl ?_
        refine bd2_e hf (fun r_1 c_2 hq hf => ?_)
        refine c_callI C K hj cal_RX0_70 ⟨rfl, rfl, Nat.le_of_ble_eq_true rfl, Nat.le_of_ble_eq_true rfl⟩ (t_X0_putOut _ hj x1 hq) rfl (rest := []) rfl (Nat.le_of_ble_eq_true rfl) dX0_countDown_19 ?_
        refine r_pop C dX0_countDown_22 rfl ?_
        refine r_iinc C dX0_countDown_23 2 rfl (kn_1 _) (Nat.le_of_ble_eq_true rfl) (lv2 := [(2, .int (x2 + 1)), (0, .ref (A j)), (1, .int x1)]) rfl ?_
        refine r_goto C (tgt := 2) dX0_countDown_26 rfl ?_
        exact r_sub [1, 2, 0] rfl (ih c_2 (x2 + 1) hf)
set_option maxRecDepth 100000 in
theorem w_X0_countDown_0 {X : XT} {E : EvT} {Z : Nat → Prop} {Q : State → Prop} {A : Nat → Nat} {V : Nat → Nat → Int32} {L : Nat → Int64} {j : Nat} (hj : isCirc j) (C : Cx X (.code yX0_countDown cX0_countDown 3 (some .int)) cX0_countDown 3 RX0 rm_X0_countDown.frames rm_X0_countDown.locals) (K : Ck X E Z) {r0 : Int32} {c0 : Nat → Int32} (hret : RI X 3 cX0_countDown (IC X E Z A V L j) Q .int r0 c0) : ∀ (c : Nat → Int32) (x1 : Int32), f_X0_countDown c x1 = some (r0, c0) → Wm X 3 (IC X E Z A V L j) Q 0 [(0, .ref (A j)), (1, .int x1)] [] c := by
  intro c x1 hf
  rw [f_X0_countDown] at hf
  refine r_iconst C dX0_countDown_0 ki_0 ?_
  refine r_istore_n C dX0_countDown_1 rfl (Nat.le_of_ble_eq_true rfl) (lv2 := [(2, .int (0 : Int32)), (0, .ref (A j)), (1, .int x1)]) rfl ?_
  exact r_sub [1, 2, 0] rfl (w_X0_countDown_2 hj C K hret x1 20000 c (0 : Int32) hf)
theorem t_X0_countDown (l : Launch) {E : EvT} {A : Nat → Nat} {V : Nat → Nat → Int32} {L : Nat → Int64} {j : Nat} (hj : isCirc j) {c : Nat → Int32} (x1 : Int32) {r0 : Int32} {c0 : Nat → Int32} (hq : f_X0_countDown c x1 = some (r0, c0)) : KI l yX0_countDown (.code yX0_countDown cX0_countDown 3 (some .int) :: wA) rm_X0_countDown E (cw E A (setc V j c) L) (cw E A (setc V j c0) L) [.ref (A j), .int x1] r0 := by
  refine ent_I (own := RX0) (ty := .int) (lv0 := [(0, .ref (A j)), (1, .int x1)]) (by decide) rfl rfl (Nat.le_of_ble_eq_true rfl) rfl (cw_fst _ _ _ _ _ _) ?_
  intro X Z Q hl C K hret
  exact w_X0_countDown_0 hj C K hret c x1 hq
set_option maxRecDepth 100000 in
theorem w_X0_howManyIn_0 {X : XT} {E : EvT} {Z : Nat → Prop} {Q : State → Prop} {A : Nat → Nat} {V : Nat → Nat → Int32} {L : Nat → Int64} {j : Nat} (hj : isCirc j) (C : Cx X (.code yX0_howManyIn cX0_howManyIn 1 (some .int)) cX0_howManyIn 1 RX0 rm_X0_howManyIn.frames rm_X0_howManyIn.locals) (K : Ck X E Z) {r0 : Int32} {c : Nat → Int32} (hret : RI X 1 cX0_howManyIn (IC X E Z A V L j) Q .int r0 c) : f_X0_howManyIn c = r0 → Wm X 1 (IC X E Z A V L j) Q 0 [(0, .ref (A j))] [] c := by
  intro  hf
  rw [f_X0_howManyIn] at hf
  refine r_aload_n C dX0_howManyIn_0 0 rfl rfl ?_
  refine gC_RX0_27 hj C K dX0_howManyIn_1 ?_
  refine r_callP C cas_RX0_48 ⟨rfl, rfl, Nat.le_of_ble_eq_true rfl, Nat.le_of_ble_eq_true rfl⟩ (t_J6_bitCount_0f7a4 _ (c 5)) rfl (rest := []) rfl (Nat.le_of_ble_eq_true rfl) dX0_howManyIn_4 ?_
  exact ri_T hret hf dX0_howManyIn_7 rfl
theorem t_X0_howManyIn (l : Launch) {E : EvT} {A : Nat → Nat} {V : Nat → Nat → Int32} {L : Nat → Int64} {j : Nat} (hj : isCirc j) {c : Nat → Int32} : KI l yX0_howManyIn (.code yX0_howManyIn cX0_howManyIn 1 (some .int) :: wA) rm_X0_howManyIn E (cw E A (setc V j c) L) (cw E A (setc V j c) L) [.ref (A j)] (f_X0_howManyIn c) := by
  refine ent_I (own := RX0) (ty := .int) (lv0 := [(0, .ref (A j))]) (by decide) rfl rfl (Nat.le_of_ble_eq_true rfl) rfl (cw_fst _ _ _ _ _ _) ?_
  intro X Z Q hl C K hret
  exact w_X0_howManyIn_0 hj C K hret   rfl
set_option maxRecDepth 100000 in
theorem w_X0_movedUp_0 {X : XT} {Q : State → Prop} (C : Cx X (.code yX0_movedUp cX0_movedUp 3 (some .int)) cX0_movedUp 3 RX0 rm_X0_movedUp.frames rm_X0_movedUp.locals) {r0 : Int32} (hret : RI X 3 cX0_movedUp (IP X) Q .int r0 ()) : ∀ (x0 : Int32) (x1 : Int32), f_X0_movedUp x0 x1 = r0 → Wm X 3 (IP X) Q 0 [(0, .int x0), (1, .int x1)] [] () := by
  intro x0 x1 hf
  rw [f_X0_movedUp] at hf
  refine r_iconst C dX0_movedUp_0 ki_1 ?_
  refine r_iload_n C dX0_movedUp_1 1 rfl rfl ?_
  refine p_ishl C dX0_movedUp_2 ?_
  refine r_iconst C dX0_movedUp_3 ki_1 ?_
  refine r_isub C dX0_movedUp_4 ?_
  refine b_int hf (fun t_1 hf => ?_)
  refine r_istore_n C dX0_movedUp_5 rfl (Nat.le_of_ble_eq_true rfl) (lv2 := [(2, .int t_1), (0, .int x0), (1, .int x1)]) rfl ?_
  refine r_iload_n C dX0_movedUp_6 1 rfl rfl ?_
  refine r_iload_n C dX0_movedUp_7 0 rfl rfl ?_
  refine r_iand C dX0_movedUp_8 ?_
  refine r_iload_n C dX0_movedUp_9 1 rfl rfl ?_
  refine r_iload_n C dX0_movedUp_10 0 rfl rfl ?_
  refine r_iconst C dX0_movedUp_11 ki_m1 ?_
  refine r_ixor C dX0_movedUp_12 ?_
  refine r_iand C dX0_movedUp_13 ?_
  refine r_iconst C dX0_movedUp_14 ki_1 ?_
  refine p_ishl C dX0_movedUp_15 ?_
  refine r_ior C dX0_movedUp_16 ?_
  exact ri_T hret hf dX0_movedUp_17 rfl
theorem t_X0_movedUp (l : Launch) (x0 : Int32) (x1 : Int32) : KP l yX0_movedUp (.code yX0_movedUp cX0_movedUp 3 (some .int) :: wA) rm_X0_movedUp [.int x0, .int x1] (f_X0_movedUp x0 x1) := by
  refine ent_P (own := RX0) (ty := .int) (lv0 := [(0, .int x0), (1, .int x1)]) (by decide) rfl rfl (Nat.le_of_ble_eq_true rfl) rfl ?_
  intro X Q hl C hret
  exact w_X0_movedUp_0 C hret x0 x1 rfl
set_option maxRecDepth 100000 in
theorem w_X0_addAhead_94 {X : XT} {E : EvT} {Z : Nat → Prop} {Q : State → Prop} {A : Nat → Nat} {V : Nat → Nat → Int32} {L : Nat → Int64} {j : Nat} (hj : isCirc j) (C : Cx X (.code yX0_addAhead cX0_addAhead 3 none) cX0_addAhead 3 RX0 rm_X0_addAhead.frames rm_X0_addAhead.locals) (K : Ck X E Z) {c0 : Nat → Int32} (hret : RV X 3 cX0_addAhead (IC X E Z A V L j) Q c0) : ∀ (c : Nat → Int32) (x1 : Int32) (x2 : Int32), f_X0_addAhead_94 c x1 x2 = c0 → Wm X 3 (IC X E Z A V L j) Q 94 [(0, .ref (A j)), (1, .int x1), (2, .int x2)] [] c := by
  intro c x1 x2 hf
  rw [f_X0_addAhead_94] at hf
  refine r_aload_n C dX0_addAhead_94 0 rfl rfl ?_
  refine r_dup C dX0_addAhead_95 rfl ?_
  refine gC_RX0_9 hj C K dX0_addAhead_96 ?_
  refine r_iconst C dX0_addAhead_99 ki_1 ?_
  refine r_iadd C dX0_addAhead_100 ?_
  refine pC_RX0_9 hj C K dX0_addAhead_101 hf (fun c_1 hf => ?_)
  refine r_aload_n C dX0_addAhead_104 0 rfl rfl ?_
  refine r_iload_n C dX0_addAhead_105 1 rfl rfl ?_
  refine r_iload_n C dX0_addAhead_106 2 rfl rfl ?_
  refine c_callV C K hj cal_RX0_40 ⟨rfl, rfl, Nat.le_of_ble_eq_true rfl, Nat.le_of_ble_eq_true rfl⟩ (t_X0_become _ hj x1 x2) rfl (rest := []) rfl (Nat.le_of_ble_eq_true rfl) dX0_addAhead_107 ?_
  refine b_st hf (fun c_2 hf => ?_)
  exact rv_TW hret hf dX0_addAhead_110
set_option maxRecDepth 100000 in
theorem w_X0_addAhead_0 {X : XT} {E : EvT} {Z : Nat → Prop} {Q : State → Prop} {A : Nat → Nat} {V : Nat → Nat → Int32} {L : Nat → Int64} {j : Nat} (hj : isCirc j) (C : Cx X (.code yX0_addAhead cX0_addAhead 3 none) cX0_addAhead 3 RX0 rm_X0_addAhead.frames rm_X0_addAhead.locals) (K : Ck X E Z) {c0 : Nat → Int32} (hret : RV X 3 cX0_addAhead (IC X E Z A V L j) Q c0) : ∀ (c : Nat → Int32) (x1 : Int32) (x2 : Int32), f_X0_addAhead c x1 x2 = c0 → Wm X 3 (IC X E Z A V L j) Q 0 [(0, .ref (A j)), (1, .int x1), (2, .int x2)] [] c := by
  intro c x1 x2 hf
  rw [f_X0_addAhead] at hf
  refine r_aload_n C dX0_addAhead_0 0 rfl rfl ?_
  refine r_aload_n C dX0_addAhead_1 0 rfl rfl ?_
  refine gC_RX0_15 hj C K dX0_addAhead_2 ?_
  refine r_iload_n C dX0_addAhead_5 1 rfl rfl ?_
  refine r_callP C cas_RX0_44 ⟨rfl, rfl, Nat.le_of_ble_eq_true rfl, Nat.le_of_ble_eq_true rfl⟩ (t_X0_movedUp _ (c 1) x1) rfl (rest := [.ref (A j)]) rfl (Nat.le_of_ble_eq_true rfl) dX0_addAhead_6 ?_
  refine pC_RX0_15 hj C K dX0_addAhead_9 hf (fun c_1 hf => ?_)
  refine r_aload_n C dX0_addAhead_12 0 rfl rfl ?_
  refine r_aload_n C dX0_addAhead_13 0 rfl rfl ?_
  refine gC_RX0_18 hj C K dX0_addAhead_14 ?_
  refine r_iload_n C dX0_addAhead_17 1 rfl rfl ?_
  refine r_callP C cas_RX0_44 ⟨rfl, rfl, Nat.le_of_ble_eq_true rfl, Nat.le_of_ble_eq_true rfl⟩ (t_X0_movedUp _ (c_1 2) x1) rfl (rest := [.ref (A j)]) rfl (Nat.le_of_ble_eq_true rfl) dX0_addAhead_18 ?_
  refine pC_RX0_18 hj C K dX0_addAhead_21 hf (fun c_2 hf => ?_)
  refine r_aload_n C dX0_addAhead_24 0 rfl rfl ?_
  refine r_aload_n C dX0_addAhead_25 0 rfl rfl ?_
  refine gC_RX0_21 hj C K dX0_addAhead_26 ?_
  refine r_iload_n C dX0_addAhead_29 1 rfl rfl ?_
  refine r_callP C cas_RX0_44 ⟨rfl, rfl, Nat.le_of_ble_eq_true rfl, Nat.le_of_ble_eq_true rfl⟩ (t_X0_movedUp _ (c_2 3) x1) rfl (rest := [.ref (A j)]) rfl (Nat.le_of_ble_eq_true rfl) dX0_addAhead_30 ?_
  refine pC_RX0_21 hj C K dX0_addAhead_33 hf (fun c_3 hf => ?_)
  refine r_aload_n C dX0_addAhead_36 0 rfl rfl ?_
  refine r_aload_n C dX0_addAhead_37 0 rfl rfl ?_
  refine gC_RX0_24 hj C K dX0_addAhead_38 ?_
  refine r_iload_n C dX0_addAhead_41 1 rfl rfl ?_
  refine r_callP C cas_RX0_44 ⟨rfl, rfl, Nat.le_of_ble_eq_true rfl, Nat.le_of_ble_eq_true rfl⟩ (t_X0_movedUp _ (c_3 4) x1) rfl (rest := [.ref (A j)]) rfl (Nat.le_of_ble_eq_true rfl) dX0_addAhead_42 ?_
  refine pC_RX0_24 hj C K dX0_addAhead_45 hf (fun c_4 hf => ?_)
  refine r_aload_n C dX0_addAhead_48 0 rfl rfl ?_
  refine r_aload_n C dX0_addAhead_49 0 rfl rfl ?_
  refine gC_RX0_30 hj C K dX0_addAhead_50 ?_
  refine r_iload_n C dX0_addAhead_53 1 rfl rfl ?_
  refine r_callP C cas_RX0_44 ⟨rfl, rfl, Nat.le_of_ble_eq_true rfl, Nat.le_of_ble_eq_true rfl⟩ (t_X0_movedUp _ (c_4 6) x1) rfl (rest := [.ref (A j)]) rfl (Nat.le_of_ble_eq_true rfl) dX0_addAhead_54 ?_
  refine pC_RX0_30 hj C K dX0_addAhead_57 hf (fun c_5 hf => ?_)
  refine r_aload_n C dX0_addAhead_60 0 rfl rfl ?_
  refine r_aload_n C dX0_addAhead_61 0 rfl rfl ?_
  refine gC_RX0_27 hj C K dX0_addAhead_62 ?_
  refine r_iload_n C dX0_addAhead_65 1 rfl rfl ?_
  refine r_callP C cas_RX0_44 ⟨rfl, rfl, Nat.le_of_ble_eq_true rfl, Nat.le_of_ble_eq_true rfl⟩ (t_X0_movedUp _ (c_5 5) x1) rfl (rest := [.ref (A j)]) rfl (Nat.le_of_ble_eq_true rfl) dX0_addAhead_66 ?_
  refine r_iconst C dX0_addAhead_69 ki_1 ?_
  refine r_iload_n C dX0_addAhead_70 1 rfl rfl ?_
  refine p_ishl C dX0_addAhead_71 ?_
  refine r_ior C dX0_addAhead_72 ?_
  refine pC_RX0_27 hj C K dX0_addAhead_73 hf (fun c_6 hf => ?_)
  refine r_aload_n C dX0_addAhead_76 0 rfl rfl ?_
  refine gC_RX0_33 hj C K dX0_addAhead_77 ?_
  refine r_iload_n C dX0_addAhead_80 1 rfl rfl ?_
  refine r_icmp_lt C (tgt := 94) dX0_addAhead_81 rfl hf (fun hf => ?_) (fun hf => ?_)
  · exact r_sub [0, 1, 2] rfl (w_X0_addAhead_94 hj C K hret c_6 x1 x2 hf)
  · refine r_aload_n C dX0_addAhead_84 0 rfl rfl ?_
    refine r_dup C dX0_addAhead_85 rfl ?_
    refine gC_RX0_33 hj C K dX0_addAhead_86 ?_
    refine r_iconst C dX0_addAhead_89 ki_1 ?_
    refine r_iadd C dX0_addAhead_90 ?_
    refine pC_RX0_33 hj C K dX0_addAhead_91 hf (fun c_7 hf => ?_)
    exact r_sub [0, 1, 2] rfl (w_X0_addAhead_94 hj C K hret c_7 x1 x2 hf)
theorem t_X0_addAhead (l : Launch) {E : EvT} {A : Nat → Nat} {V : Nat → Nat → Int32} {L : Nat → Int64} {j : Nat} (hj : isCirc j) {c : Nat → Int32} (x1 : Int32) (x2 : Int32) : KV l yX0_addAhead (.code yX0_addAhead cX0_addAhead 3 none :: wA) rm_X0_addAhead E (cw E A (setc V j c) L) (cw E A (setc V j (f_X0_addAhead c x1 x2)) L) [.ref (A j), .int x1, .int x2] := by
  refine ent_V (own := RX0) (lv0 := [(0, .ref (A j)), (1, .int x1), (2, .int x2)]) (by decide) rfl rfl (Nat.le_of_ble_eq_true rfl) rfl (cw_fst _ _ _ _ _ _) ?_
  intro X Z Q hl C K hret
  exact w_X0_addAhead_0 hj C K hret c x1 x2 rfl
set_option maxRecDepth 100000 in
theorem w_X0_takePose_0 {X : XT} {E : EvT} {Z : Nat → Prop} {Q : State → Prop} {A : Nat → Nat} {V : Nat → Nat → Int32} {L : Nat → Int64} {j : Nat} (hj : isCirc j) (C : Cx X (.code yX0_takePose cX0_takePose 2 none) cX0_takePose 2 RX0 rm_X0_takePose.frames rm_X0_takePose.locals) (K : Ck X E Z) {c0 : Nat → Int32} (hret : RV X 2 cX0_takePose (IC X E Z A V L j) Q c0) : ∀ (c : Nat → Int32) (x1 : Int32), f_X0_takePose c x1 = c0 → Wm X 2 (IC X E Z A V L j) Q 0 [(0, .ref (A j)), (1, .int x1)] [] c := by
  intro c x1 hf
  rw [f_X0_takePose] at hf
  refine r_aload_n C dX0_takePose_0 0 rfl rfl ?_
  refine r_iload_n C dX0_takePose_1 1 rfl rfl ?_
  refine r_sipush C dX0_takePose_2 ks_511 ?_
  refine r_iand C dX0_takePose_5 ?_
  refine pC_RX0_27 hj C K dX0_takePose_6 hf (fun c_1 hf => ?_)
  refine r_aload_n C dX0_takePose_9 0 rfl rfl ?_
  refine r_iload_n C dX0_takePose_10 1 rfl rfl ?_
  refine r_bipush C dX0_takePose_11 kb_9 ?_
  refine p_ishr C dX0_takePose_13 ?_
  refine r_sipush C dX0_takePose_14 ks_511 ?_
  refine r_iand C dX0_takePose_17 ?_
  refine pC_RX0_30 hj C K dX0_takePose_18 hf (fun c_2 hf => ?_)
  refine r_aload_n C dX0_takePose_21 0 rfl rfl ?_
  refine r_iload_n C dX0_takePose_22 1 rfl rfl ?_
  refine r_bipush C dX0_takePose_23 kb_18 ?_
  refine p_ishr C dX0_takePose_25 ?_
  refine r_bipush C dX0_takePose_26 kb_15 ?_
  refine r_iand C dX0_takePose_28 ?_
  refine pC_RX0_33 hj C K dX0_takePose_29 hf (fun c_3 hf => ?_)
  refine r_aload_n C dX0_takePose_32 0 rfl rfl ?_
  refine r_iload_n C dX0_takePose_33 1 rfl rfl ?_
  refine r_bipush C dX0_takePose_34 kb_22 ?_
  refine p_ishr C dX0_takePose_36 ?_
  refine r_if_eq C (tgt := 44) dX0_takePose_37 rfl hf (fun hf => ?_) (fun hf => ?_)
  · refine r_iconst C dX0_takePose_44 ki_0 ?_
    refine pC_RX0_36 hj rfl C K dX0_takePose_45 hf (fun c_4 hf => ?_)
    exact rv_TW hret hf dX0_takePose_48
  · refine r_iconst C dX0_takePose_40 ki_1 ?_
    refine r_goto C (tgt := 45) dX0_takePose_41 rfl ?_
    refine pC_RX0_36 hj rfl C K dX0_takePose_45 hf (fun c_5 hf => ?_)
    exact rv_TW hret hf dX0_takePose_48
theorem t_X0_takePose (l : Launch) {E : EvT} {A : Nat → Nat} {V : Nat → Nat → Int32} {L : Nat → Int64} {j : Nat} (hj : isCirc j) {c : Nat → Int32} (x1 : Int32) : KV l yX0_takePose (.code yX0_takePose cX0_takePose 2 none :: wA) rm_X0_takePose E (cw E A (setc V j c) L) (cw E A (setc V j (f_X0_takePose c x1)) L) [.ref (A j), .int x1] := by
  refine ent_V (own := RX0) (lv0 := [(0, .ref (A j)), (1, .int x1)]) (by decide) rfl rfl (Nat.le_of_ble_eq_true rfl) rfl (cw_fst _ _ _ _ _ _) ?_
  intro X Z Q hl C K hret
  exact w_X0_takePose_0 hj C K hret c x1 rfl
set_option maxRecDepth 100000 in
theorem w_X0_allComeBack_0 {X : XT} {E : EvT} {Z : Nat → Prop} {Q : State → Prop} {A : Nat → Nat} {V : Nat → Nat → Int32} {L : Nat → Int64} {j : Nat} (hj : isCirc j) (C : Cx X (.code yX0_allComeBack cX0_allComeBack 1 none) cX0_allComeBack 1 RX0 rm_X0_allComeBack.frames rm_X0_allComeBack.locals) (K : Ck X E Z) {c0 : Nat → Int32} (hret : RV X 1 cX0_allComeBack (IC X E Z A V L j) Q c0) : ∀ (c : Nat → Int32), f_X0_allComeBack c = c0 → Wm X 1 (IC X E Z A V L j) Q 0 [(0, .ref (A j))] [] c := by
  intro c hf
  rw [f_X0_allComeBack] at hf
  refine r_aload_n C dX0_allComeBack_0 0 rfl rfl ?_
  refine r_iconst C dX0_allComeBack_1 ki_1 ?_
  refine r_aload_n C dX0_allComeBack_2 0 rfl rfl ?_
  refine gC_RX0_9 hj C K dX0_allComeBack_3 ?_
  refine p_ishl C dX0_allComeBack_6 ?_
  refine r_iconst C dX0_allComeBack_7 ki_1 ?_
  refine r_isub C dX0_allComeBack_8 ?_
  refine pC_RX0_27 hj C K dX0_allComeBack_9 hf (fun c_1 hf => ?_)
  refine r_aload_n C dX0_allComeBack_12 0 rfl rfl ?_
  refine r_iconst C dX0_allComeBack_13 ki_0 ?_
  refine pC_RX0_30 hj C K dX0_allComeBack_14 hf (fun c_2 hf => ?_)
  exact rv_TW hret hf dX0_allComeBack_17
theorem t_X0_allComeBack (l : Launch) {E : EvT} {A : Nat → Nat} {V : Nat → Nat → Int32} {L : Nat → Int64} {j : Nat} (hj : isCirc j) {c : Nat → Int32} : KV l yX0_allComeBack (.code yX0_allComeBack cX0_allComeBack 1 none :: wA) rm_X0_allComeBack E (cw E A (setc V j c) L) (cw E A (setc V j (f_X0_allComeBack c)) L) [.ref (A j)] := by
  refine ent_V (own := RX0) (lv0 := [(0, .ref (A j))]) (by decide) rfl rfl (Nat.le_of_ble_eq_true rfl) rfl (cw_fst _ _ _ _ _ _) ?_
  intro X Z Q hl C K hret
  exact w_X0_allComeBack_0 hj C K hret c  rfl
set_option maxRecDepth 100000 in
theorem w_X0_takenTogether_0 {X : XT} {E : EvT} {Z : Nat → Prop} {Q : State → Prop} {A : Nat → Nat} {V : Nat → Nat → Int32} {L : Nat → Int64} {j : Nat} (hj : isCirc j) (C : Cx X (.code yX0_takenTogether cX0_takenTogether 1 (some .int)) cX0_takenTogether 1 RX0 rm_X0_takenTogether.frames rm_X0_takenTogether.locals) (K : Ck X E Z) {r0 : Int32} {c : Nat → Int32} (hret : RI X 1 cX0_takenTogether (IC X E Z A V L j) Q .int r0 c) : f_X0_takenTogether c = r0 → Wm X 1 (IC X E Z A V L j) Q 0 [(0, .ref (A j))] [] c := by
  intro  hf
  rw [f_X0_takenTogether] at hf
  refine r_aload_n C dX0_takenTogether_0 0 rfl rfl ?_
  refine gC_RX0_27 hj C K dX0_takenTogether_1 ?_
  refine r_aload_n C dX0_takenTogether_4 0 rfl rfl ?_
  refine gC_RX0_18 hj C K dX0_takenTogether_5 ?_
  refine r_iconst C dX0_takenTogether_8 ki_m1 ?_
  refine r_ixor C dX0_takenTogether_9 ?_
  refine r_iand C dX0_takenTogether_10 ?_
  refine r_callP C cas_RX0_48 ⟨rfl, rfl, Nat.le_of_ble_eq_true rfl, Nat.le_of_ble_eq_true rfl⟩ (t_J6_bitCount_0f7a4 _ ((c 5) &&& ((c 2) ^^^ (-1 : Int32)))) rfl (rest := []) rfl (Nat.le_of_ble_eq_true rfl) dX0_takenTogether_11 ?_
  refine r_aload_n C dX0_takenTogether_14 0 rfl rfl ?_
  refine gC_RX0_27 hj C K dX0_takenTogether_15 ?_
  refine r_aload_n C dX0_takenTogether_18 0 rfl rfl ?_
  refine gC_RX0_15 hj C K dX0_takenTogether_19 ?_
  refine r_iand C dX0_takenTogether_22 ?_
  refine r_callP C cas_RX0_48 ⟨rfl, rfl, Nat.le_of_ble_eq_true rfl, Nat.le_of_ble_eq_true rfl⟩ (t_J6_bitCount_0f7a4 _ ((c 5) &&& (c 1))) rfl (rest := [.int (f_J6_bitCount_0f7a4 ((c 5) &&& ((c 2) ^^^ (-1 : Int32))))]) rfl (Nat.le_of_ble_eq_true rfl) dX0_takenTogether_23 ?_
  refine r_iadd C dX0_takenTogether_26 ?_
  exact ri_T hret hf dX0_takenTogether_27 rfl
theorem t_X0_takenTogether (l : Launch) {E : EvT} {A : Nat → Nat} {V : Nat → Nat → Int32} {L : Nat → Int64} {j : Nat} (hj : isCirc j) {c : Nat → Int32} : KI l yX0_takenTogether (.code yX0_takenTogether cX0_takenTogether 1 (some .int) :: wA) rm_X0_takenTogether E (cw E A (setc V j c) L) (cw E A (setc V j c) L) [.ref (A j)] (f_X0_takenTogether c) := by
  refine ent_I (own := RX0) (ty := .int) (lv0 := [(0, .ref (A j))]) (by decide) rfl rfl (Nat.le_of_ble_eq_true rfl) rfl (cw_fst _ _ _ _ _ _) ?_
  intro X Z Q hl C K hret
  exact w_X0_takenTogether_0 hj C K hret   rfl
set_option maxRecDepth 100000 in
theorem w_J1_canEncode_9a6ad_0 {X : XT} {Q : State → Prop} (C : Cx X (.code yJ1_canEncode_9a6ad cJ1_canEncode_9a6ad 1 (some .boolean)) cJ1_canEncode_9a6ad 1 RJ1 rm_J1_canEncode_9a6ad.frames rm_J1_canEncode_9a6ad.locals) {r0 : Int32} (hret : RI X 1 cJ1_canEncode_9a6ad (IP X) Q .boolean r0 ()) : ∀ (x0 : Int32), f_J1_canEncode_9a6ad x0 = r0 → Wm X 1 (IP X) Q 0 [(0, .int x0)] [] () := by
  intro x0 hf
  rw [f_J1_canEncode_9a6ad] at hf
  refine r_iload_n C dJ1_canEncode_9a6ad_0 0 rfl rfl ?_
  refine r_if_lt C (tgt := 15) dJ1_canEncode_9a6ad_1 rfl hf (fun hf => ?_) (fun hf => ?_)
  · refine r_iconst C dJ1_canEncode_9a6ad_15 ki_0 ?_
    exact ri_T hret hf dJ1_canEncode_9a6ad_16 rfl
  · refine r_iload_n C dJ1_canEncode_9a6ad_4 0 rfl rfl ?_
    refine r_sipush C dJ1_canEncode_9a6ad_5 ks_255 ?_
    refine r_icmp_gt C (tgt := 15) dJ1_canEncode_9a6ad_8 rfl hf (fun hf => ?_) (fun hf => ?_)
    · refine r_iconst C dJ1_canEncode_9a6ad_15 ki_0 ?_
      exact ri_T hret hf dJ1_canEncode_9a6ad_16 rfl
    · refine r_iconst C dJ1_canEncode_9a6ad_11 ki_1 ?_
      refine r_goto C (tgt := 16) dJ1_canEncode_9a6ad_12 rfl ?_
      exact ri_T hret hf dJ1_canEncode_9a6ad_16 rfl
theorem t_J1_canEncode_9a6ad (l : Launch) (x0 : Int32) : KP l yJ1_canEncode_9a6ad (.code yJ1_canEncode_9a6ad cJ1_canEncode_9a6ad 1 (some .boolean) :: wA) rm_J1_canEncode_9a6ad [.int x0] (f_J1_canEncode_9a6ad x0) := by
  refine ent_P (own := RJ1) (ty := .boolean) (lv0 := [(0, .int x0)]) (by decide) rfl rfl (Nat.le_of_ble_eq_true rfl) rfl ?_
  intro X Q hl C hret
  exact w_J1_canEncode_9a6ad_0 C hret x0 rfl
