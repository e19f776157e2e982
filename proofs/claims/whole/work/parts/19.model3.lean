set_option maxRecDepth 100000 in
theorem w_X5_layLikely_134 {X : XT} {E : EvT} {Z : Nat → Prop} {Q : State → Prop} {A : Nat → Nat} (C : Cx X (.code yX5_layLikely cX5_layLikely 5 none) cX5_layLikely 5 RX5 rm_X5_layLikely.frames rm_X5_layLikely.locals) (K : Ck X E Z) {V0 : Nat → Nat → Int32} {L0 : Nat → Int64} (hret : RV X 5 cX5_layLikely (IF X E Z (mw E A)) Q (V0, L0)) {k33 : (Nat → Nat → Int32) → (Nat → Int64) → Int32 → Option ((Nat → Nat → Int32) × (Nat → Int64))} (hk33 : ∀ (V : Nat → Nat → Int32) (L : Nat → Int64) (x1 : Int32), k33 V L x1 = some (V0, L0) → Wm X 5 (IF X E Z (mw E A)) Q 33 [(0, .ref (A 0)), (1, .int x1)] [] (V, L)) : ∀ (V : Nat → Nat → Int32) (L : Nat → Int64) (x1 : Int32) (x3 : Int32), f_X5_layLikely_134 k33 V L x1 x3 = some (V0, L0) → Wm X 5 (IF X E Z (mw E A)) Q 134 [(0, .ref (A 0)), (1, .int x1), (3, .int x3)] [] (V, L) := by
  intro V L x1 x3 hf
  rw [f_X5_layLikely_134] at hf
  refine r_iinc C dX5_layLikely_134 1 rfl (kn_1 _) (Nat.le_of_ble_eq_true rfl) (lv2 := [(1, .int (x1 + 1)), (0, .ref (A 0)), (3, .int x3)]) rfl ?_
  refine r_aload_n C dX5_layLikely_137 1 rfl rfl ?_
  refine r_iload_n C dX5_layLikely_138 0 rfl rfl ?_
  refine r_aload_n C dX5_layLikely_139 1 rfl rfl ?_
  refine g_RX5_41_0 C K dX5_layLikely_140 ?_
  refine r_iload_n C dX5_layLikely_143 0 rfl rfl ?_
  refine r_iconst C dX5_layLikely_144 ki_1 ?_
  refine r_isub C dX5_layLikely_145 ?_
  refine s_iald C K (mw_a28 E A _ _) dX5_layLikely_146 hf (fun hf => ?_)
  refine r_iload_n C dX5_layLikely_147 2 rfl rfl ?_
  refine r_imul C dX5_layLikely_148 ?_
  refine bd2_e hf (fun V_1 L_2 hq hf => ?_)
  refine f_callV C K cal_RX5_259 ⟨rfl, rfl, Nat.le_of_ble_eq_true rfl, Nat.le_of_ble_eq_true rfl⟩ (t_X5_enter _ (x1 + 1) ((V 28 ((x1 + 1) - (1 : Int32)).toNatClampNeg) * x3) hq) (mw_o0 E A _ _) rfl (mw_fst _ _ _ _ _ _) rfl (rest := []) rfl (Nat.le_of_ble_eq_true rfl) dX5_layLikely_149 ?_
  refine r_goto C (tgt := 163) dX5_layLikely_152 rfl ?_
  refine r_goto C (tgt := 33) dX5_layLikely_163 rfl ?_
  exact r_sub [1, 0] rfl (hk33 V_1 L_2 (x1 + 1) hf)
set_option maxRecDepth 100000 in
theorem w_X5_layLikely_70 {X : XT} {E : EvT} {Z : Nat → Prop} {Q : State → Prop} {A : Nat → Nat} (C : Cx X (.code yX5_layLikely cX5_layLikely 5 none) cX5_layLikely 5 RX5 rm_X5_layLikely.frames rm_X5_layLikely.locals) (K : Ck X E Z) {V0 : Nat → Nat → Int32} {L0 : Nat → Int64} (hret : RV X 5 cX5_layLikely (IF X E Z (mw E A)) Q (V0, L0)) {k33 : (Nat → Nat → Int32) → (Nat → Int64) → Int32 → Option ((Nat → Nat → Int32) × (Nat → Int64))} (hk33 : ∀ (V : Nat → Nat → Int32) (L : Nat → Int64) (x1 : Int32), k33 V L x1 = some (V0, L0) → Wm X 5 (IF X E Z (mw E A)) Q 33 [(0, .ref (A 0)), (1, .int x1)] [] (V, L)) : ∀ (V : Nat → Nat → Int32) (L : Nat → Int64) (x1 : Int32) (x2 : Int32) (x3 : Int32), f_X5_layLikely_70 k33 V L x1 x2 x3 = some (V0, L0) → Wm X 5 (IF X E Z (mw E A)) Q 70 [(0, .ref (A 0)), (1, .int x1), (2, .int x2), (3, .int x3)] [] (V, L) := by
  intro V L x1 x2 x3 hf
  rw [f_X5_layLikely_70] at hf
  refine r_iload_n C dX5_layLikely_70 3 rfl rfl ?_
  refine r_if_le C (tgt := 155) dX5_layLikely_71 rfl hf (fun hf => ?_) (fun hf => ?_)
  · refine r_iload_n C dX5_layLikely_155 2 rfl rfl ?_
    refine r_iconst C dX5_layLikely_156 ki_3 ?_
    refine r_icmp_lt C (tgt := 163) dX5_layLikely_157 rfl hf (fun hf => ?_) (fun hf => ?_)
    · refine r_goto C (tgt := 33) dX5_layLikely_163 rfl ?_
      exact r_sub [0, 1] rfl (hk33 V L x1 hf)
    · refine r_iinc C dX5_layLikely_160 1 rfl (kn_m1 _) (Nat.le_of_ble_eq_true rfl) (lv2 := [(1, .int (x1 + (-1))), (0, .ref (A 0)), (2, .int x2), (3, .int x3)]) rfl ?_
      refine r_goto C (tgt := 33) dX5_layLikely_163 rfl ?_
      exact r_sub [1, 0] rfl (hk33 V L (x1 + (-1)) hf)
  · refine r_iconst C dX5_layLikely_74 ki_3 ?_
    refine r_iload_n C dX5_layLikely_75 1 rfl rfl ?_
    refine r_imul C dX5_layLikely_76 ?_
    refine r_iload_n C dX5_layLikely_77 2 rfl rfl ?_
    refine r_iadd C dX5_layLikely_78 ?_
    refine r_istore C dX5_layLikely_79 (Nat.le_of_ble_eq_true rfl) (lv2 := [(4, .int (((3 : Int32) * x1) + x2)), (0, .ref (A 0)), (1, .int x1), (2, .int x2), (3, .int x3)]) rfl ?_
    refine r_aload_n C dX5_layLikely_81 1 rfl rfl ?_
    refine r_aload_n C dX5_layLikely_82 1 rfl rfl ?_
    refine g_RX5_47_0 C K dX5_layLikely_83 ?_
    refine r_iload C dX5_layLikely_86 0 rfl ?_
    refine s_iald C K (mw_a30 E A _ _) dX5_layLikely_88 hf (fun hf => ?_)
    refine p_RX5_119_0 C K dX5_layLikely_89 hf (fun V_1 hf => ?_)
    refine r_aload_n C dX5_layLikely_92 1 rfl rfl ?_
    refine r_aload_n C dX5_layLikely_93 1 rfl rfl ?_
    refine g_RX5_50_0 C K dX5_layLikely_94 ?_
    refine r_iload C dX5_layLikely_97 0 rfl ?_
    refine s_iald C K (mw_a31 E A _ _) dX5_layLikely_99 hf (fun hf => ?_)
    refine p_RX5_122_0 C K dX5_layLikely_100 hf (fun V_2 hf => ?_)
    refine r_aload_n C dX5_layLikely_103 1 rfl rfl ?_
    refine r_aload_n C dX5_layLikely_104 1 rfl rfl ?_
    refine g_RX5_53_0 C K dX5_layLikely_105 ?_
    refine r_iload C dX5_layLikely_108 0 rfl ?_
    refine s_iald C K (mw_a32 E A _ _) dX5_layLikely_110 hf (fun hf => ?_)
    refine p_RX5_125_0 C K dX5_layLikely_111 hf (fun V_3 hf => ?_)
    refine r_aload_n C dX5_layLikely_114 1 rfl rfl ?_
    refine r_aload_n C dX5_layLikely_115 1 rfl rfl ?_
    refine g_RX5_56_0 C K dX5_layLikely_116 ?_
    refine r_iload C dX5_layLikely_119 0 rfl ?_
    refine s_iald C K (mw_a33 E A _ _) dX5_layLikely_121 hf (fun hf => ?_)
    refine r_iconst C dX5_layLikely_122 ki_1 ?_
    refine r_icmp_ne C (tgt := 130) dX5_layLikely_123 rfl hf (fun hf => ?_) (fun hf => ?_)
    · refine r_iconst C dX5_layLikely_130 ki_0 ?_
      refine p_RX5_128_0 rfl C K dX5_layLikely_131 hf (fun V_4 hf => ?_)
      exact r_sub [1, 2, 4] rfl (w_X5_layLikely_134 C K hret hk33 V_4 L x1 x3 hf)
    · refine r_iconst C dX5_layLikely_126 ki_1 ?_
      refine r_goto C (tgt := 131) dX5_layLikely_127 rfl ?_
      refine p_RX5_128_0 rfl C K dX5_layLikely_131 hf (fun V_5 hf => ?_)
      exact r_sub [1, 2, 4] rfl (w_X5_layLikely_134 C K hret hk33 V_5 L x1 x3 hf)
set_option maxRecDepth 100000 in
theorem w_X5_layLikely_33 {X : XT} {E : EvT} {Z : Nat → Prop} {Q : State → Prop} {A : Nat → Nat} (C : Cx X (.code yX5_layLikely cX5_layLikely 5 none) cX5_layLikely 5 RX5 rm_X5_layLikely.frames rm_X5_layLikely.locals) (K : Ck X E Z) {V0 : Nat → Nat → Int32} {L0 : Nat → Int64} (hret : RV X 5 cX5_layLikely (IF X E Z (mw E A)) Q (V0, L0)) : ∀ (n : Nat) (V : Nat → Nat → Int32) (L : Nat → Int64) (x1 : Int32), f_X5_layLikely_33 n V L x1 = some (V0, L0) → Wm X 5 (IF X E Z (mw E A)) Q 33 [(0, .ref (A 0)), (1, .int x1)] [] (V, L) := by
  intro n
  induction n with
  | zero =>
    intro V L x1 hf
    exact none_e hf
  | succ n ih =>
    intro V L x1 hf
    rw [f_X5_layLikely_33] at hf
    refine r_iload_n C dX5_layLikely_33 1 rfl rfl ?_
    refine r_if_lt C (tgt := 166) dX5_layLikely_34 rfl hf (fun hf => ?_) (fun hf => ?_)
    · refine r_aload_n C dX5_layLikely_166 0 rfl rfl ?_
      refine bd2_e hf (fun V_1 L_2 hq hf => ?_)
      refine f_callV C K cal_RX5_188 ⟨rfl, rfl, Nat.le_of_ble_eq_true rfl, Nat.le_of_ble_eq_true rfl⟩ (t_X5_load _ hq) (mw_o0 E A _ _) rfl (mw_fst _ _ _ _ _ _) rfl (rest := []) rfl (Nat.le_of_ble_eq_true rfl) dX5_layLikely_167 ?_
      exact rv_OV hret hf dX5_layLikely_170
    · refine r_aload_n C dX5_layLikely_37 0 rfl rfl ?_
      refine g_RX5_44_0 C K dX5_layLikely_38 ?_
      refine r_iload_n C dX5_layLikely_41 1 rfl rfl ?_
      refine s_iald C K (mw_a29 E A _ _) dX5_layLikely_42 hf (fun hf => ?_)
      refine r_istore_n C dX5_layLikely_43 rfl (Nat.le_of_ble_eq_true rfl) (lv2 := [(2, .int (V 29 x1.toNatClampNeg)), (0, .ref (A 0)), (1, .int x1)]) rfl ?_
      refine r_aload_n C dX5_layLikely_44 1 rfl rfl ?_
      refine g_RX5_44_0 C K dX5_layLikely_45 ?_
      refine r_iload_n C dX5_layLikely_48 2 rfl rfl ?_
      refine r_dup2 C dX5_layLikely_49 rfl rfl ?_
      refine s_iald C K (mw_a29 E A _ _) dX5_layLikely_50 hf (fun hf => ?_)
      refine r_iconst C dX5_layLikely_51 ki_1 ?_
      refine r_iadd C dX5_layLikely_52 ?_
      refine s_iast C K (mw_a29 E A _ _) (fun z => mw_s29 E A _ _ _) dX5_layLikely_53 hf (fun V_3 hf => ?_)
      refine r_iload_n C dX5_layLikely_54 0 rfl rfl ?_
      refine r_iconst C dX5_layLikely_55 ki_3 ?_
      refine r_icmp_ge C (tgt := 68) dX5_layLikely_56 rfl hf (fun hf => ?_) (fun hf => ?_)
      · refine r_iconst C dX5_layLikely_68 ki_0 ?_
        refine r_istore_n C dX5_layLikely_69 rfl (Nat.le_of_ble_eq_true rfl) (lv2 := [(3, .int (0 : Int32)), (2, .int (V 29 x1.toNatClampNeg)), (0, .ref (A 0)), (1, .int x1)]) rfl ?_
        exact r_sub [2, 3, 1, 0] rfl (w_X5_layLikely_70 C K hret ih V_3 L x1 (V 29 x1.toNatClampNeg) (0 : Int32) hf)
      · refine r_aload_n C dX5_layLikely_59 1 rfl rfl ?_
        refine r_iload_n C dX5_layLikely_60 2 rfl rfl ?_
        refine r_iload_n C dX5_layLikely_61 0 rfl rfl ?_
        refine bd1_e hf (fun r_4 hq hf => ?_)
        refine f_callI C K cal_RX5_262 ⟨rfl, rfl, Nat.le_of_ble_eq_true rfl, Nat.le_of_ble_eq_true rfl⟩ (t_X5_likeFaces _ x1 (V 29 x1.toNatClampNeg) hq) (mw_o0 E A _ _) rfl (mw_fst _ _ _ _ _ _) rfl (rest := []) rfl (Nat.le_of_ble_eq_true rfl) dX5_layLikely_62 ?_
        refine r_goto C (tgt := 69) dX5_layLikely_65 rfl ?_
        refine r_istore_n C dX5_layLikely_69 rfl (Nat.le_of_ble_eq_true rfl) (lv2 := [(3, .int r_4), (2, .int (V 29 x1.toNatClampNeg)), (0, .ref (A 0)), (1, .int x1)]) rfl ?_
        exact r_sub [2, 3, 1, 0] rfl (w_X5_layLikely_70 C K hret ih V_3 L x1 (V 29 x1.toNatClampNeg) r_4 hf)
set_option maxRecDepth 100000 in
theorem w_X5_layLikely_6 {X : XT} {E : EvT} {Z : Nat → Prop} {Q : State → Prop} {A : Nat → Nat} (C : Cx X (.code yX5_layLikely cX5_layLikely 5 none) cX5_layLikely 5 RX5 rm_X5_layLikely.frames rm_X5_layLikely.locals) (K : Ck X E Z) {V0 : Nat → Nat → Int32} {L0 : Nat → Int64} (hret : RV X 5 cX5_layLikely (IF X E Z (mw E A)) Q (V0, L0)) : ∀ (n : Nat) (V : Nat → Nat → Int32) (L : Nat → Int64) (x1 : Int32), f_X5_layLikely_6 n V L x1 = some (V0, L0) → Wm X 5 (IF X E Z (mw E A)) Q 6 [(0, .ref (A 0)), (1, .int x1)] [] (V, L) := by
  intro n
  induction n with
  | zero =>
    intro V L x1 hf
    exact none_e hf
  | succ n ih =>
    intro V L x1 hf
    rw [f_X5_layLikely_6] at hf
    refine r_iload_n C dX5_layLikely_6 1 rfl rfl ?_
    refine r_bipush C dX5_layLikely_7 kb_8 ?_
    refine r_icmp_ge C (tgt := 25) dX5_layLikely_9 rfl hf (fun hf => ?_) (fun hf => ?_)
    · refine r_aload_n C dX5_layLikely_25 0 rfl rfl ?_
      refine r_iconst C dX5_layLikely_26 ki_0 ?_
      refine r_iconst C dX5_layLikely_27 ki_1 ?_
      refine bd2_e hf (fun V_1 L_2 hq hf => ?_)
      refine f_callV C K cal_RX5_259 ⟨rfl, rfl, Nat.le_of_ble_eq_true rfl, Nat.le_of_ble_eq_true rfl⟩ (t_X5_enter _ (0 : Int32) (1 : Int32) hq) (mw_o0 E A _ _) rfl (mw_fst _ _ _ _ _ _) rfl (rest := []) rfl (Nat.le_of_ble_eq_true rfl) dX5_layLikely_28 ?_
      refine r_iconst C dX5_layLikely_31 ki_0 ?_
      refine r_istore_n C dX5_layLikely_32 rfl (Nat.le_of_ble_eq_true rfl) (lv2 := [(1, .int (0 : Int32)), (0, .ref (A 0))]) rfl ?_
      exact r_sub [1, 0] rfl (w_X5_layLikely_33 C K hret 20000 V_1 L_2 (0 : Int32) hf)
    · refine r_aload_n C dX5_layLikely_12 0 rfl rfl ?_
      refine g_RX5_59_0 C K dX5_layLikely_13 ?_
      refine r_iload_n C dX5_layLikely_16 1 rfl rfl ?_
      refine r_iconst C dX5_layLikely_17 ki_0 ?_
      refine s_iast C K (mw_a34 E A _ _) (fun z => mw_s34 E A _ _ _) dX5_layLikely_18 hf (fun V_3 hf => ?_)
      refine r_iinc C dX5_layLikely_19 1 rfl (kn_1 _) (Nat.le_of_ble_eq_true rfl) (lv2 := [(1, .int (x1 + 1)), (0, .ref (A 0))]) rfl ?_
      refine r_goto C (tgt := 6) dX5_layLikely_22 rfl ?_
      exact r_sub [1, 0] rfl (ih V_3 L (x1 + 1) hf)
set_option maxRecDepth 100000 in
theorem w_X5_layLikely_0 {X : XT} {E : EvT} {Z : Nat → Prop} {Q : State → Prop} {A : Nat → Nat} (C : Cx X (.code yX5_layLikely cX5_layLikely 5 none) cX5_layLikely 5 RX5 rm_X5_layLikely.frames rm_X5_layLikely.locals) (K : Ck X E Z) {V0 : Nat → Nat → Int32} {L0 : Nat → Int64} (hret : RV X 5 cX5_layLikely (IF X E Z (mw E A)) Q (V0, L0)) : ∀ (V : Nat → Nat → Int32) (L : Nat → Int64), f_X5_layLikely V L = some (V0, L0) → Wm X 5 (IF X E Z (mw E A)) Q 0 [(0, .ref (A 0))] [] (V, L) := by
  intro V L hf
  rw [f_X5_layLikely] at hf
  refine r_aload_n C dX5_layLikely_0 0 rfl rfl ?_
  refine bd2_e hf (fun V_1 L_2 hq hf => ?_)
  refine f_callV C K cal_RX5_182 ⟨rfl, rfl, Nat.le_of_ble_eq_true rfl, Nat.le_of_ble_eq_true rfl⟩ (t_X5_save _ hq) (mw_o0 E A _ _) rfl (mw_fst _ _ _ _ _ _) rfl (rest := []) rfl (Nat.le_of_ble_eq_true rfl) dX5_layLikely_1 ?_
  refine r_iconst C dX5_layLikely_4 ki_0 ?_
  refine r_istore_n C dX5_layLikely_5 rfl (Nat.le_of_ble_eq_true rfl) (lv2 := [(1, .int (0 : Int32)), (0, .ref (A 0))]) rfl ?_
  exact r_sub [1, 0] rfl (w_X5_layLikely_6 C K hret 20000 V_1 L_2 (0 : Int32) hf)
theorem t_X5_layLikely (l : Launch) {E : EvT} {A : Nat → Nat} {V : Nat → Nat → Int32} {L : Nat → Int64} {V0 : Nat → Nat → Int32} {L0 : Nat → Int64} (hq : f_X5_layLikely V L = some (V0, L0)) : KV l yX5_layLikely (.code yX5_layLikely cX5_layLikely 5 none :: wA) rm_X5_layLikely E (mw E A V L) (mw E A V0 L0) [.ref (A 0)] := by
  refine ent_V (own := RX5) (lv0 := [(0, .ref (A 0))]) (by decide) rfl rfl (Nat.le_of_ble_eq_true rfl) rfl (mw_fst _ _ _ _ _ _) ?_
  intro X Z Q hl C K hret
  exact w_X5_layLikely_0 C K hret V L  hq
set_option maxRecDepth 100000 in
theorem w_X5_likelyNow_5 {X : XT} {E : EvT} {Z : Nat → Prop} {Q : State → Prop} {A : Nat → Nat} (C : Cx X (.code yX5_likelyNow cX5_likelyNow 5 (some .int)) cX5_likelyNow 5 RX5 rm_X5_likelyNow.frames rm_X5_likelyNow.locals) (K : Ck X E Z) {r0 : Int32} {V : Nat → Nat → Int32} {L : Nat → Int64} (hret : RI X 5 cX5_likelyNow (IF X E Z (mw E A)) Q .int r0 (V, L)) (x1 : Int32) (x2 : Int32) : ∀ (n : Nat) (x3 : Int32) (x4 : Int32), f_X5_likelyNow_5 V L x1 x2 n x3 x4 = some r0 → Wm X 5 (IF X E Z (mw E A)) Q 5 [(0, .ref (A 0)), (1, .int x1), (2, .int x2), (3, .int x3), (4, .int x4)] [] (V, L) := by
  intro n
  induction n with
  | zero =>
    intro x3 x4 hf
    exact none_e hf
  | succ n ih =>
    intro x3 x4 hf
    rw [f_X5_likelyNow_5] at hf
    refine r_iload C dX5_likelyNow_5 4 rfl ?_
    refine r_bipush C dX5_likelyNow_7 kb_7 ?_
    refine r_icmp_ge C (tgt := 22) dX5_likelyNow_9 rfl hf (fun hf => ?_) (fun hf => ?_)
    · refine r_aload_n C dX5_likelyNow_22 0 rfl rfl ?_
      refine g_RX5_59_0 C K dX5_likelyNow_23 ?_
      refine r_iload_n C dX5_likelyNow_26 1 rfl rfl ?_
      refine s_iald C K (mw_a34 E A _ _) dX5_likelyNow_27 hf (fun hf => ?_)
      refine r_iload_n C dX5_likelyNow_28 3 rfl rfl ?_
      refine bd1_e hf (fun r_1 hq hf => ?_)
      refine r_callP C cas_RX5_265 ⟨rfl, rfl, Nat.le_of_ble_eq_true rfl, Nat.le_of_ble_eq_true rfl⟩ (t_X5_divisor _ (V 34 x1.toNatClampNeg) x3 hq) rfl (rest := []) rfl (Nat.le_of_ble_eq_true rfl) dX5_likelyNow_29 ?_
      refine r_istore C dX5_likelyNow_32 (Nat.le_of_ble_eq_true rfl) (lv2 := [(4, .int r_1), (0, .ref (A 0)), (1, .int x1), (2, .int x2), (3, .int x3)]) rfl ?_
      refine r_iload_n C dX5_likelyNow_34 3 rfl rfl ?_
      refine r_if_ne C (tgt := 50) dX5_likelyNow_35 rfl hf (fun hf => ?_) (fun hf => ?_)
      · refine r_iload_n C dX5_likelyNow_50 4 rfl rfl ?_
        refine r_iload C dX5_likelyNow_51 0 rfl ?_
        refine gd_ni hf (fun hne hf => ?_)
        refine r_idiv C dX5_likelyNow_53 hne ?_
        exact ri_OR hret hf dX5_likelyNow_54 rfl
      · refine r_aload_n C dX5_likelyNow_38 1 rfl rfl ?_
        refine g_RX5_59_0 C K dX5_likelyNow_39 ?_
        refine r_iload_n C dX5_likelyNow_42 2 rfl rfl ?_
        refine s_iald C K (mw_a34 E A _ _) dX5_likelyNow_43 hf (fun hf => ?_)
        refine r_iload C dX5_likelyNow_44 0 rfl ?_
        refine gd_ni hf (fun hne hf => ?_)
        refine r_idiv C dX5_likelyNow_46 hne ?_
        refine r_goto C (tgt := 54) dX5_likelyNow_47 rfl ?_
        exact ri_OR hret hf dX5_likelyNow_54 rfl
    · refine r_iload_n C dX5_likelyNow_12 3 rfl rfl ?_
      refine r_iconst C dX5_likelyNow_13 ki_3 ?_
      refine r_imul C dX5_likelyNow_14 ?_
      refine r_istore_n C dX5_likelyNow_15 rfl (Nat.le_of_ble_eq_true rfl) (lv2 := [(3, .int (x3 * (3 : Int32))), (0, .ref (A 0)), (1, .int x1), (2, .int x2), (4, .int x4)]) rfl ?_
      refine r_iinc C dX5_likelyNow_16 4 rfl (kn_1 _) (Nat.le_of_ble_eq_true rfl) (lv2 := [(4, .int (x4 + 1)), (3, .int (x3 * (3 : Int32))), (0, .ref (A 0)), (1, .int x1), (2, .int x2)]) rfl ?_
      refine r_goto C (tgt := 5) dX5_likelyNow_19 rfl ?_
      exact r_sub [2, 3, 4, 1, 0] rfl (ih (x3 * (3 : Int32)) (x4 + 1) hf)
set_option maxRecDepth 100000 in
theorem w_X5_likelyNow_0 {X : XT} {E : EvT} {Z : Nat → Prop} {Q : State → Prop} {A : Nat → Nat} (C : Cx X (.code yX5_likelyNow cX5_likelyNow 5 (some .int)) cX5_likelyNow 5 RX5 rm_X5_likelyNow.frames rm_X5_likelyNow.locals) (K : Ck X E Z) {r0 : Int32} {V : Nat → Nat → Int32} {L : Nat → Int64} (hret : RI X 5 cX5_likelyNow (IF X E Z (mw E A)) Q .int r0 (V, L)) : ∀ (x1 : Int32) (x2 : Int32), f_X5_likelyNow V L x1 x2 = some r0 → Wm X 5 (IF X E Z (mw E A)) Q 0 [(0, .ref (A 0)), (1, .int x1), (2, .int x2)] [] (V, L) := by
  intro x1 x2 hf
  rw [f_X5_likelyNow] at hf
  refine r_iconst C dX5_likelyNow_0 ki_1 ?_
  refine r_istore_n C dX5_likelyNow_1 rfl (Nat.le_of_ble_eq_true rfl) (lv2 := [(3, .int (1 : Int32)), (0, .ref (A 0)), (1, .int x1), (2, .int x2)]) rfl ?_
  refine r_iconst C dX5_likelyNow_2 ki_0 ?_
  refine r_istore C dX5_likelyNow_3 (Nat.le_of_ble_eq_true rfl) (lv2 := [(4, .int (0 : Int32)), (3, .int (1 : Int32)), (0, .ref (A 0)), (1, .int x1), (2, .int x2)]) rfl ?_
  exact r_sub [2, 3, 4, 1, 0] rfl (w_X5_likelyNow_5 C K hret x1 x2 20000 (1 : Int32) (0 : Int32) hf)
theorem t_X5_likelyNow (l : Launch) {E : EvT} {A : Nat → Nat} {V : Nat → Nat → Int32} {L : Nat → Int64} (x1 : Int32) (x2 : Int32) {r0 : Int32} (hq : f_X5_likelyNow V L x1 x2 = some r0) : KI l yX5_likelyNow (.code yX5_likelyNow cX5_likelyNow 5 (some .int) :: wA) rm_X5_likelyNow E (mw E A V L) (mw E A V L) [.ref (A 0), .int x1, .int x2] r0 := by
  refine ent_I (own := RX5) (ty := .int) (lv0 := [(0, .ref (A 0)), (1, .int x1), (2, .int x2)]) (by decide) rfl rfl (Nat.le_of_ble_eq_true rfl) rfl (mw_fst _ _ _ _ _ _) ?_
  intro X Z Q hl C K hret
  exact w_X5_likelyNow_0 C K hret  x1 x2 hq
set_option maxRecDepth 100000 in
theorem w_X5_likely_0 {X : XT} {E : EvT} {Z : Nat → Prop} {Q : State → Prop} {A : Nat → Nat} (C : Cx X (.code yX5_likely cX5_likely 3 (some .int)) cX5_likely 3 RX5 rm_X5_likely.frames rm_X5_likely.locals) (K : Ck X E Z) {r0 : Int32} {V0 : Nat → Nat → Int32} {L0 : Nat → Int64} (hret : RI X 3 cX5_likely (IF X E Z (mw E A)) Q .int r0 (V0, L0)) : ∀ (V : Nat → Nat → Int32) (L : Nat → Int64) (x1 : Int32) (x2 : Int32), f_X5_likely V L x1 x2 = some (r0, V0, L0) → Wm X 3 (IF X E Z (mw E A)) Q 0 [(0, .ref (A 0)), (1, .int x1), (2, .int x2)] [] (V, L) := by
  intro V L x1 x2 hf
  rw [f_X5_likely] at hf
  refine r_aload_n C dX5_likely_0 0 rfl rfl ?_
  refine r_iload_n C dX5_likely_1 1 rfl rfl ?_
  refine f_callI C K cal_RX5_197 ⟨rfl, rfl, Nat.le_of_ble_eq_true rfl, Nat.le_of_ble_eq_true rfl⟩ (t_X5_isChild _ x1) (mw_o0 E A _ _) rfl (mw_fst _ _ _ _ _ _) rfl (rest := []) rfl (Nat.le_of_ble_eq_true rfl) dX5_likely_2 ?_
  refine r_if_ne C (tgt := 11) dX5_likely_5 rfl hf (fun hf => ?_) (fun hf => ?_)
  · refine r_iload_n C dX5_likely_11 2 rfl rfl ?_
    refine r_iconst C dX5_likely_12 ki_0 ?_
    refine r_iconst C dX5_likely_13 ki_1 ?_
    refine r_callP C cas_RX5_77 ⟨rfl, rfl, Nat.le_of_ble_eq_true rfl, Nat.le_of_ble_eq_true rfl⟩ (t_X5_within _ x2 (0 : Int32) (1 : Int32)) rfl (rest := []) rfl (Nat.le_of_ble_eq_true rfl) dX5_likely_14 ?_
    refine r_if_ne C (tgt := 23) dX5_likely_17 rfl hf (fun hf => ?_) (fun hf => ?_)
    · refine r_aload_n C dX5_likely_23 0 rfl rfl ?_
      refine g_RX5_119_0 C K dX5_likely_24 ?_
      refine r_iload_n C dX5_likely_27 1 rfl rfl ?_
      refine r_callP C cas_RX5_140 ⟨rfl, rfl, Nat.le_of_ble_eq_true rfl, Nat.le_of_ble_eq_true rfl⟩ (t_X5_isIn _ (V 0 5) x1) rfl (rest := []) rfl (Nat.le_of_ble_eq_true rfl) dX5_likely_28 ?_
      refine r_if_ne C (tgt := 37) dX5_likely_31 rfl hf (fun hf => ?_) (fun hf => ?_)
      · refine r_aload_n C dX5_likely_37 0 rfl rfl ?_
        refine bd2_e hf (fun V_1 L_2 hq hf => ?_)
        refine f_callV C K cal_RX5_268 ⟨rfl, rfl, Nat.le_of_ble_eq_true rfl, Nat.le_of_ble_eq_true rfl⟩ (t_X5_layLikely _ hq) (mw_o0 E A _ _) rfl (mw_fst _ _ _ _ _ _) rfl (rest := []) rfl (Nat.le_of_ble_eq_true rfl) dX5_likely_38 ?_
        refine r_aload_n C dX5_likely_41 0 rfl rfl ?_
        refine r_iload_n C dX5_likely_42 1 rfl rfl ?_
        refine r_iload_n C dX5_likely_43 2 rfl rfl ?_
        refine bd1_e hf (fun r_3 hq hf => ?_)
        refine f_callI C K cal_RX5_271 ⟨rfl, rfl, Nat.le_of_ble_eq_true rfl, Nat.le_of_ble_eq_true rfl⟩ (t_X5_likelyNow _ x1 x2 hq) (mw_o0 E A _ _) rfl (mw_fst _ _ _ _ _ _) rfl (rest := []) rfl (Nat.le_of_ble_eq_true rfl) dX5_likely_44 ?_
        exact ri_OW hret hf dX5_likely_47 rfl
      · refine r_bipush C dX5_likely_34 kb_m103 ?_
        exact ri_OW hret hf dX5_likely_36 rfl
    · refine r_bipush C dX5_likely_20 kb_m102 ?_
      exact ri_OW hret hf dX5_likely_22 rfl
  · refine r_bipush C dX5_likely_8 kb_m101 ?_
    exact ri_OW hret hf dX5_likely_10 rfl
theorem t_X5_likely (l : Launch) {E : EvT} {A : Nat → Nat} {V : Nat → Nat → Int32} {L : Nat → Int64} (x1 : Int32) (x2 : Int32) {r0 : Int32} {V0 : Nat → Nat → Int32} {L0 : Nat → Int64} (hq : f_X5_likely V L x1 x2 = some (r0, V0, L0)) : KI l yX5_likely (.code yX5_likely cX5_likely 3 (some .int) :: wA) rm_X5_likely E (mw E A V L) (mw E A V0 L0) [.ref (A 0), .int x1, .int x2] r0 := by
  refine ent_I (own := RX5) (ty := .int) (lv0 := [(0, .ref (A 0)), (1, .int x1), (2, .int x2)]) (by decide) rfl rfl (Nat.le_of_ble_eq_true rfl) rfl (mw_fst _ _ _ _ _ _) ?_
  intro X Z Q hl C K hret
  exact w_X5_likely_0 C K hret V L x1 x2 hq
set_option maxRecDepth 100000 in
theorem w_X5_see_0 {X : XT} {E : EvT} {Z : Nat → Prop} {Q : State → Prop} {A : Nat → Nat} (C : Cx X (.code yX5_see cX5_see 3 (some .int)) cX5_see 3 RX5 rm_X5_see.frames rm_X5_see.locals) (K : Ck X E Z) {r0 : Int32} {V0 : Nat → Nat → Int32} {L0 : Nat → Int64} (hret : RI X 3 cX5_see (IF X E Z (mw E A)) Q .int r0 (V0, L0)) : ∀ (V : Nat → Nat → Int32) (L : Nat → Int64) (x1 : Int32) (x2 : Int32), f_X5_see V L x1 x2 = some (r0, V0, L0) → Wm X 3 (IF X E Z (mw E A)) Q 0 [(0, .ref (A 0)), (1, .int x1), (2, .int x2)] [] (V, L) := by
  intro V L x1 x2 hf
  rw [f_X5_see] at hf
  refine r_aload_n C dX5_see_0 0 rfl rfl ?_
  refine r_iload_n C dX5_see_1 1 rfl rfl ?_
  refine f_callI C K cal_RX5_197 ⟨rfl, rfl, Nat.le_of_ble_eq_true rfl, Nat.le_of_ble_eq_true rfl⟩ (t_X5_isChild _ x1) (mw_o0 E A _ _) rfl (mw_fst _ _ _ _ _ _) rfl (rest := []) rfl (Nat.le_of_ble_eq_true rfl) dX5_see_2 ?_
  refine r_if_eq C (tgt := 16) dX5_see_5 rfl hf (fun hf => ?_) (fun hf => ?_)
  · refine r_bipush C dX5_see_16 kb_m101 ?_
    exact ri_OW hret hf dX5_see_18 rfl
  · refine r_aload_n C dX5_see_8 0 rfl rfl ?_
    refine r_iload_n C dX5_see_9 2 rfl rfl ?_
    refine f_callI C K cal_RX5_197 ⟨rfl, rfl, Nat.le_of_ble_eq_true rfl, Nat.le_of_ble_eq_true rfl⟩ (t_X5_isChild _ x2) (mw_o0 E A _ _) rfl (mw_fst _ _ _ _ _ _) rfl (rest := []) rfl (Nat.le_of_ble_eq_true rfl) dX5_see_10 ?_
    refine r_if_ne C (tgt := 19) dX5_see_13 rfl hf (fun hf => ?_) (fun hf => ?_)
    · refine r_aload_n C dX5_see_19 0 rfl rfl ?_
      refine g_RX5_137_0 C K dX5_see_20 ?_
      refine r_bipush C dX5_see_23 kb_6 ?_
      refine r_icmp_ne C (tgt := 31) dX5_see_25 rfl hf (fun hf => ?_) (fun hf => ?_)
      · refine r_aload_n C dX5_see_31 0 rfl rfl ?_
        refine g_RX5_16_0 C K dX5_see_32 ?_
        refine r_aload_n C dX5_see_35 0 rfl rfl ?_
        refine g_RX5_137_0 C K dX5_see_36 ?_
        refine r_iload_n C dX5_see_39 1 rfl rfl ?_
        refine s_iast C K (mw_a11 E A _ _) (fun z => mw_s11 E A _ _ _) dX5_see_40 hf (fun V_1 hf => ?_)
        refine r_aload_n C dX5_see_41 0 rfl rfl ?_
        refine g_RX5_19_0 C K dX5_see_42 ?_
        refine r_aload_n C dX5_see_45 0 rfl rfl ?_
        refine g_RX5_137_0 C K dX5_see_46 ?_
        refine r_iload_n C dX5_see_49 2 rfl rfl ?_
        refine s_iast C K (mw_a12 E A _ _) (fun z => mw_s12 E A _ _ _) dX5_see_50 hf (fun V_2 hf => ?_)
        refine r_aload_n C dX5_see_51 0 rfl rfl ?_
        refine r_dup C dX5_see_52 rfl ?_
        refine g_RX5_137_0 C K dX5_see_53 ?_
        refine r_iconst C dX5_see_56 ki_1 ?_
        refine r_iadd C dX5_see_57 ?_
        refine p_RX5_137_0 C K dX5_see_58 hf (fun V_3 hf => ?_)
        refine r_aload_n C dX5_see_61 0 rfl rfl ?_
        refine g_RX5_137_0 C K dX5_see_62 ?_
        exact ri_OW hret hf dX5_see_65 rfl
      · refine r_bipush C dX5_see_28 kb_m104 ?_
        exact ri_OW hret hf dX5_see_30 rfl
    · refine r_bipush C dX5_see_16 kb_m101 ?_
      exact ri_OW hret hf dX5_see_18 rfl
theorem t_X5_see (l : Launch) {E : EvT} {A : Nat → Nat} {V : Nat → Nat → Int32} {L : Nat → Int64} (x1 : Int32) (x2 : Int32) {r0 : Int32} {V0 : Nat → Nat → Int32} {L0 : Nat → Int64} (hq : f_X5_see V L x1 x2 = some (r0, V0, L0)) : KI l yX5_see (.code yX5_see cX5_see 3 (some .int) :: wA) rm_X5_see E (mw E A V L) (mw E A V0 L0) [.ref (A 0), .int x1, .int x2] r0 := by
  refine ent_I (own := RX5) (ty := .int) (lv0 := [(0, .ref (A 0)), (1, .int x1), (2, .int x2)]) (by decide) rfl rfl (Nat.le_of_ble_eq_true rfl) rfl (mw_fst _ _ _ _ _ _) ?_
  intro X Z Q hl C K hret
  exact w_X5_see_0 C K hret V L x1 x2 hq
set_option maxRecDepth 100000 in
theorem w_X5_forget_0 {X : XT} {E : EvT} {Z : Nat → Prop} {Q : State → Prop} {A : Nat → Nat} (C : Cx X (.code yX5_forget cX5_forget 2 (some .int)) cX5_forget 2 RX5 rm_X5_forget.frames rm_X5_forget.locals) (K : Ck X E Z) {r0 : Int32} {V0 : Nat → Nat → Int32} {L0 : Nat → Int64} (hret : RI X 2 cX5_forget (IF X E Z (mw E A)) Q .int r0 (V0, L0)) : ∀ (V : Nat → Nat → Int32) (L : Nat → Int64), f_X5_forget V L = some (r0, V0, L0) → Wm X 2 (IF X E Z (mw E A)) Q 0 [(0, .ref (A 0))] [] (V, L) := by
  intro V L hf
  rw [f_X5_forget] at hf
  refine r_aload_n C dX5_forget_0 0 rfl rfl ?_
  refine g_RX5_137_0 C K dX5_forget_1 ?_
  refine r_istore_n C dX5_forget_4 rfl (Nat.le_of_ble_eq_true rfl) (lv2 := [(1, .int (V 0 10)), (0, .ref (A 0))]) rfl ?_
  refine r_aload_n C dX5_forget_5 1 rfl rfl ?_
  refine r_iconst C dX5_forget_6 ki_0 ?_
  refine p_RX5_137_0 C K dX5_forget_7 hf (fun V_1 hf => ?_)
  refine r_iload_n C dX5_forget_10 0 rfl rfl ?_
  exact ri_OW hret hf dX5_forget_11 rfl
theorem t_X5_forget (l : Launch) {E : EvT} {A : Nat → Nat} {V : Nat → Nat → Int32} {L : Nat → Int64} {r0 : Int32} {V0 : Nat → Nat → Int32} {L0 : Nat → Int64} (hq : f_X5_forget V L = some (r0, V0, L0)) : KI l yX5_forget (.code yX5_forget cX5_forget 2 (some .int) :: wA) rm_X5_forget E (mw E A V L) (mw E A V0 L0) [.ref (A 0)] r0 := by
  refine ent_I (own := RX5) (ty := .int) (lv0 := [(0, .ref (A 0))]) (by decide) rfl rfl (Nat.le_of_ble_eq_true rfl) rfl (mw_fst _ _ _ _ _ _) ?_
  intro X Z Q hl C K hret
  exact w_X5_forget_0 C K hret V L  hq
set_option maxRecDepth 100000 in
theorem w_X5_lengthsNow_15 {X : XT} {E : EvT} {Z : Nat → Prop} {Q : State → Prop} {A : Nat → Nat} (C : Cx X (.code yX5_lengthsNow cX5_lengthsNow 5 (some .int)) cX5_lengthsNow 5 RX5 rm_X5_lengthsNow.frames rm_X5_lengthsNow.locals) (K : Ck X E Z) {r0 : Int32} {V0 : Nat → Nat → Int32} {L0 : Nat → Int64} (hret : RI X 5 cX5_lengthsNow (IF X E Z (mw E A)) Q .int r0 (V0, L0)) {k4 : (Nat → Nat → Int32) → (Nat → Int64) → Int32 → Int32 → Option (Int32 × (Nat → Nat → Int32) × (Nat → Int64))} (hk4 : ∀ (V : Nat → Nat → Int32) (L : Nat → Int64) (x1 : Int32) (x2 : Int32), k4 V L x1 x2 = some (r0, V0, L0) → Wm X 5 (IF X E Z (mw E A)) Q 4 [(0, .ref (A 0)), (1, .int x1), (2, .int x2)] [] (V, L)) (x1 : Int32) (x2 : Int32) : ∀ (n : Nat) (V : Nat → Nat → Int32) (L : Nat → Int64) (x3 : Int32) (x4 : Int32), f_X5_lengthsNow_15 k4 x1 x2 n V L x3 x4 = some (r0, V0, L0) → Wm X 5 (IF X E Z (mw E A)) Q 15 [(0, .ref (A 0)), (1, .int x1), (2, .int x2), (3, .int x3), (4, .int x4)] [] (V, L) := by
  intro n
  induction n with
  | zero =>
    intro V L x3 x4 hf
    exact none_e hf
  | succ n ih =>
    intro V L x3 x4 hf
    rw [f_X5_lengthsNow_15] at hf
    refine r_iload C dX5_lengthsNow_15 4 rfl ?_
    refine r_aload_n C dX5_lengthsNow_17 0 rfl rfl ?_
    refine g_RX5_137_0 C K dX5_lengthsNow_18 ?_
    refine r_icmp_ge C (tgt := 62) dX5_lengthsNow_21 rfl hf (fun hf => ?_) (fun hf => ?_)
    · refine r_iload_n C dX5_lengthsNow_62 1 rfl rfl ?_
      refine r_iload_n C dX5_lengthsNow_63 3 rfl rfl ?_
      refine r_if_eq C (tgt := 75) dX5_lengthsNow_64 rfl hf (fun hf => ?_) (fun hf => ?_)
      · refine r_iconst C dX5_lengthsNow_75 ki_0 ?_
        refine r_ior C dX5_lengthsNow_76 ?_
        refine r_istore_n C dX5_lengthsNow_77 rfl (Nat.le_of_ble_eq_true rfl) (lv2 := [(1, .int (x1 ||| (0 : Int32))), (0, .ref (A 0)), (2, .int x2), (3, .int x3), (4, .int x4)]) rfl ?_
        refine r_iinc C dX5_lengthsNow_78 2 rfl (kn_1 _) (Nat.le_of_ble_eq_true rfl) (lv2 := [(2, .int (x2 + 1)), (1, .int (x1 ||| (0 : Int32))), (0, .ref (A 0)), (3, .int x3), (4, .int x4)]) rfl ?_
        refine r_goto C (tgt := 4) dX5_lengthsNow_81 rfl ?_
        exact r_sub [2, 1, 0] rfl (hk4 V L (x1 ||| (0 : Int32)) (x2 + 1) hf)
      · refine r_iconst C dX5_lengthsNow_67 ki_1 ?_
        refine r_iload_n C dX5_lengthsNow_68 2 rfl rfl ?_
        refine r_iconst C dX5_lengthsNow_69 ki_1 ?_
        refine r_isub C dX5_lengthsNow_70 ?_
        refine p_ishl C dX5_lengthsNow_71 ?_
        refine r_goto C (tgt := 76) dX5_lengthsNow_72 rfl ?_
        refine r_ior C dX5_lengthsNow_76 ?_
        refine b_int hf (fun t_1 hf => ?_)
        refine r_istore_n C dX5_lengthsNow_77 rfl (Nat.le_of_ble_eq_true rfl) (lv2 := [(1, .int t_1), (0, .ref (A 0)), (2, .int x2), (3, .int x3), (4, .int x4)]) rfl ?_
        refine r_iinc C dX5_lengthsNow_78 2 rfl (kn_1 _) (Nat.le_of_ble_eq_true rfl) (lv2 := [(2, .int (x2 + 1)), (1, .int t_1), (0, .ref (A 0)), (3, .int x3), (4, .int x4)]) rfl ?_
        refine r_goto C (tgt := 4) dX5_lengthsNow_81 rfl ?_
        exact r_sub [2, 1, 0] rfl (hk4 V L t_1 (x2 + 1) hf)
    · refine r_iload_n C dX5_lengthsNow_24 3 rfl rfl ?_
      refine r_if_eq C (tgt := 54) dX5_lengthsNow_25 rfl hf (fun hf => ?_) (fun hf => ?_)
      · refine r_iconst C dX5_lengthsNow_54 ki_0 ?_
        refine r_istore_n C dX5_lengthsNow_55 rfl (Nat.le_of_ble_eq_true rfl) (lv2 := [(3, .int (0 : Int32)), (0, .ref (A 0)), (1, .int x1), (2, .int x2), (4, .int x4)]) rfl ?_
        refine r_iinc C dX5_lengthsNow_56 4 rfl (kn_1 _) (Nat.le_of_ble_eq_true rfl) (lv2 := [(4, .int (x4 + 1)), (3, .int (0 : Int32)), (0, .ref (A 0)), (1, .int x1), (2, .int x2)]) rfl ?_
        refine r_goto C (tgt := 15) dX5_lengthsNow_59 rfl ?_
        exact r_sub [2, 3, 4, 1, 0] rfl (ih V L (0 : Int32) (x4 + 1) hf)
      · refine r_aload_n C dX5_lengthsNow_28 0 rfl rfl ?_
        refine r_aload_n C dX5_lengthsNow_29 0 rfl rfl ?_
        refine g_RX5_16_0 C K dX5_lengthsNow_30 ?_
        refine r_iload C dX5_lengthsNow_33 4 rfl ?_
        refine s_iald C K (mw_a11 E A _ _) dX5_lengthsNow_35 hf (fun hf => ?_)
        refine r_iload_n C dX5_lengthsNow_36 2 rfl rfl ?_
        refine bd3_e hf (fun r_2 V_3 L_4 hq hf => ?_)
        refine f_callI C K cal_RX5_204 ⟨rfl, rfl, Nat.le_of_ble_eq_true rfl, Nat.le_of_ble_eq_true rfl⟩ (t_X5_outBy _ (V 11 x4.toNatClampNeg) x2 hq) (mw_o0 E A _ _) rfl (mw_fst _ _ _ _ _ _) rfl (rest := []) rfl (Nat.le_of_ble_eq_true rfl) dX5_lengthsNow_37 ?_
        refine r_aload_n C dX5_lengthsNow_40 0 rfl rfl ?_
        refine g_RX5_19_0 C K dX5_lengthsNow_41 ?_
        refine r_iload C dX5_lengthsNow_44 4 rfl ?_
        refine s_iald C K (mw_a12 E A _ _) dX5_lengthsNow_46 hf (fun hf => ?_)
        refine r_icmp_ne C (tgt := 54) dX5_lengthsNow_47 rfl hf (fun hf => ?_) (fun hf => ?_)
        · refine r_iconst C dX5_lengthsNow_54 ki_0 ?_
          refine r_istore_n C dX5_lengthsNow_55 rfl (Nat.le_of_ble_eq_true rfl) (lv2 := [(3, .int (0 : Int32)), (0, .ref (A 0)), (1, .int x1), (2, .int x2), (4, .int x4)]) rfl ?_
          refine r_iinc C dX5_lengthsNow_56 4 rfl (kn_1 _) (Nat.le_of_ble_eq_true rfl) (lv2 := [(4, .int (x4 + 1)), (3, .int (0 : Int32)), (0, .ref (A 0)), (1, .int x1), (2, .int x2)]) rfl ?_
          refine r_goto C (tgt := 15) dX5_lengthsNow_59 rfl ?_
          exact r_sub [2, 3, 4, 1, 0] rfl (ih V_3 L_4 (0 : Int32) (x4 + 1) hf)
        · refine r_iconst C dX5_lengthsNow_50 ki_1 ?_
          refine r_goto C (tgt := 55) dX5_lengthsNow_51 rfl ?_
          refine r_istore_n C dX5_lengthsNow_55 rfl (Nat.le_of_ble_eq_true rfl) (lv2 := [(3, .int (1 : Int32)), (0, .ref (A 0)), (1, .int x1), (2, .int x2), (4, .int x4)]) rfl ?_
          refine r_iinc C dX5_lengthsNow_56 4 rfl (kn_1 _) (Nat.le_of_ble_eq_true rfl) (lv2 := [(4, .int (x4 + 1)), (3, .int (1 : Int32)), (0, .ref (A 0)), (1, .int x1), (2, .int x2)]) rfl ?_
          refine r_goto C (tgt := 15) dX5_lengthsNow_59 rfl ?_
          exact r_sub [2, 3, 4, 1, 0] rfl (ih V_3 L_4 (1 : Int32) (x4 + 1) hf)
set_option maxRecDepth 100000 in
theorem w_X5_lengthsNow_4 {X : XT} {E : EvT} {Z : Nat → Prop} {Q : State → Prop} {A : Nat → Nat} (C : Cx X (.code yX5_lengthsNow cX5_lengthsNow 5 (some .int)) cX5_lengthsNow 5 RX5 rm_X5_lengthsNow.frames rm_X5_lengthsNow.locals) (K : Ck X E Z) {r0 : Int32} {V0 : Nat → Nat → Int32} {L0 : Nat → Int64} (hret : RI X 5 cX5_lengthsNow (IF X E Z (mw E A)) Q .int r0 (V0, L0)) : ∀ (n : Nat) (V : Nat → Nat → Int32) (L : Nat → Int64) (x1 : Int32) (x2 : Int32), f_X5_lengthsNow_4 n V L x1 x2 = some (r0, V0, L0) → Wm X 5 (IF X E Z (mw E A)) Q 4 [(0, .ref (A 0)), (1, .int x1), (2, .int x2)] [] (V, L) := by
  intro n
  induction n with
  | zero =>
    intro V L x1 x2 hf
    exact none_e hf
  | succ n ih =>
    intro V L x1 x2 hf
    rw [f_X5_lengthsNow_4] at hf
    refine r_iload_n C dX5_lengthsNow_4 2 rfl rfl ?_
    refine r_bipush C dX5_lengthsNow_5 kb_24 ?_
    refine r_icmp_gt C (tgt := 84) dX5_lengthsNow_7 rfl hf (fun hf => ?_) (fun hf => ?_)
    · refine r_iload_n C dX5_lengthsNow_84 1 rfl rfl ?_
      exact ri_OW hret hf dX5_lengthsNow_85 rfl
    · refine r_iconst C dX5_lengthsNow_10 ki_1 ?_
      refine r_istore_n C dX5_lengthsNow_11 rfl (Nat.le_of_ble_eq_true rfl) (lv2 := [(3, .int (1 : Int32)), (0, .ref (A 0)), (1, .int x1), (2, .int x2)]) rfl ?_
      refine r_iconst C dX5_lengthsNow_12 ki_0 ?_
      refine r_istore C dX5_lengthsNow_13 (Nat.le_of_ble_eq_true rfl) (lv2 := [(4, .int (0 : Int32)), (3, .int (1 : Int32)), (0, .ref (A 0)), (1, .int x1), (2, .int x2)]) rfl ?_
      exact r_sub [2, 3, 4, 1, 0] rfl (w_X5_lengthsNow_15 C K hret ih x1 x2 20000 V L (1 : Int32) (0 : Int32) hf)
set_option maxRecDepth 100000 in
theorem w_X5_lengthsNow_0 {X : XT} {E : EvT} {Z : Nat → Prop} {Q : State → Prop} {A : Nat → Nat} (C : Cx X (.code yX5_lengthsNow cX5_lengthsNow 5 (some .int)) cX5_lengthsNow 5 RX5 rm_X5_lengthsNow.frames rm_X5_lengthsNow.locals) (K : Ck X E Z) {r0 : Int32} {V0 : Nat → Nat → Int32} {L0 : Nat → Int64} (hret : RI X 5 cX5_lengthsNow (IF X E Z (mw E A)) Q .int r0 (V0, L0)) : ∀ (V : Nat → Nat → Int32) (L : Nat → Int64), f_X5_lengthsNow V L = some (r0, V0, L0) → Wm X 5 (IF X E Z (mw E A)) Q 0 [(0, .ref (A 0))] [] (V, L) := by
  intro V L hf
  rw [f_X5_lengthsNow] at hf
  refine r_iconst C dX5_lengthsNow_0 ki_0 ?_
  refine r_istore_n C dX5_lengthsNow_1 rfl (Nat.le_of_ble_eq_true rfl) (lv2 := [(1, .int (0 : Int32)), (0, .ref (A 0))]) rfl ?_
  refine r_iconst C dX5_lengthsNow_2 ki_1 ?_
  refine r_istore_n C dX5_lengthsNow_3 rfl (Nat.le_of_ble_eq_true rfl) (lv2 := [(2, .int (1 : Int32)), (1, .int (0 : Int32)), (0, .ref (A 0))]) rfl ?_
  exact r_sub [2, 1, 0] rfl (w_X5_lengthsNow_4 C K hret 20000 V L (0 : Int32) (1 : Int32) hf)
theorem t_X5_lengthsNow (l : Launch) {E : EvT} {A : Nat → Nat} {V : Nat → Nat → Int32} {L : Nat → Int64} {r0 : Int32} {V0 : Nat → Nat → Int32} {L0 : Nat → Int64} (hq : f_X5_lengthsNow V L = some (r0, V0, L0)) : KI l yX5_lengthsNow (.code yX5_lengthsNow cX5_lengthsNow 5 (some .int) :: wA) rm_X5_lengthsNow E (mw E A V L) (mw E A V0 L0) [.ref (A 0)] r0 := by
  refine ent_I (own := RX5) (ty := .int) (lv0 := [(0, .ref (A 0))]) (by decide) rfl rfl (Nat.le_of_ble_eq_true rfl) rfl (mw_fst _ _ _ _ _ _) ?_
  intro X Z Q hl C K hret
  exact w_X5_lengthsNow_0 C K hret V L  hq
set_option maxRecDepth 100000 in
theorem w_X5_lengths_0 {X : XT} {E : EvT} {Z : Nat → Prop} {Q : State → Prop} {A : Nat → Nat} (C : Cx X (.code yX5_lengths cX5_lengths 1 (some .int)) cX5_lengths 1 RX5 rm_X5_lengths.frames rm_X5_lengths.locals) (K : Ck X E Z) {r0 : Int32} {V0 : Nat → Nat → Int32} {L0 : Nat → Int64} (hret : RI X 1 cX5_lengths (IF X E Z (mw E A)) Q .int r0 (V0, L0)) : ∀ (V : Nat → Nat → Int32) (L : Nat → Int64), f_X5_lengths V L = some (r0, V0, L0) → Wm X 1 (IF X E Z (mw E A)) Q 0 [(0, .ref (A 0))] [] (V, L) := by
  intro V L hf
  rw [f_X5_lengths] at hf
  refine r_aload_n C dX5_lengths_0 0 rfl rfl ?_
  refine g_RX5_116_0 C K dX5_lengths_1 ?_
  refine r_if_ne C (tgt := 12) dX5_lengths_4 rfl hf (fun hf => ?_) (fun hf => ?_)
  · refine r_aload_n C dX5_lengths_12 0 rfl rfl ?_
    refine bd3_e hf (fun r_1 V_2 L_3 hq hf => ?_)
    refine f_callI C K cal_RX5_274 ⟨rfl, rfl, Nat.le_of_ble_eq_true rfl, Nat.le_of_ble_eq_true rfl⟩ (t_X5_lengthsNow _ hq) (mw_o0 E A _ _) rfl (mw_fst _ _ _ _ _ _) rfl (rest := []) rfl (Nat.le_of_ble_eq_true rfl) dX5_lengths_13 ?_
    exact ri_OW hret hf dX5_lengths_16 rfl
  · refine r_bipush C dX5_lengths_7 kb_m103 ?_
    refine r_goto C (tgt := 16) dX5_lengths_9 rfl ?_
    exact ri_OW hret hf dX5_lengths_16 rfl
theorem t_X5_lengths (l : Launch) {E : EvT} {A : Nat → Nat} {V : Nat → Nat → Int32} {L : Nat → Int64} {r0 : Int32} {V0 : Nat → Nat → Int32} {L0 : Nat → Int64} (hq : f_X5_lengths V L = some (r0, V0, L0)) : KI l yX5_lengths (.code yX5_lengths cX5_lengths 1 (some .int) :: wA) rm_X5_lengths E (mw E A V L) (mw E A V0 L0) [.ref (A 0)] r0 := by
  refine ent_I (own := RX5) (ty := .int) (lv0 := [(0, .ref (A 0))]) (by decide) rfl rfl (Nat.le_of_ble_eq_true rfl) rfl (mw_fst _ _ _ _ _ _) ?_
  intro X Z Q hl C K hret
  exact w_X5_lengths_0 C K hret V L  hq
set_option maxRecDepth 100000 in
theorem w_X5_worstFrom_26 {X : XT} {E : EvT} {Z : Nat → Prop} {Q : State → Prop} {A : Nat → Nat} (C : Cx X (.code yX5_worstFrom cX5_worstFrom 6 (some .int)) cX5_worstFrom 6 RX5 rm_X5_worstFrom.frames rm_X5_worstFrom.locals) (K : Ck X E Z) {r0 : Int32} {V0 : Nat → Nat → Int32} {L0 : Nat → Int64} (hret : RI X 6 cX5_worstFrom (IF X E Z (mw E A)) Q .int r0 (V0, L0)) (x1 : Int32) (x2 : Int32) : ∀ (n : Nat) (V : Nat → Nat → Int32) (L : Nat → Int64) (x3 : Int32) (x4 : Int32), f_X5_worstFrom_26 x1 x2 n V L x3 x4 = some (r0, V0, L0) → Wm X 6 (IF X E Z (mw E A)) Q 26 [(0, .ref (A 0)), (1, .int x1), (2, .int x2), (3, .int x3), (4, .int x4)] [] (V, L) := by
  intro n
  induction n with
  | zero =>
    intro V L x3 x4 hf
    exact none_e hf
  | succ n ih =>
    intro V L x3 x4 hf
    rw [f_X5_worstFrom_26] at hf
    refine r_iload C dX5_worstFrom_26 4 rfl ?_
    refine r_bipush C dX5_worstFrom_28 kb_24 ?_
    refine r_icmp_gt C (tgt := 93) dX5_worstFrom_30 rfl hf (fun hf => ?_) (fun hf => ?_)
    · refine r_iload_n C dX5_worstFrom_93 3 rfl rfl ?_
      exact ri_OW hret hf dX5_worstFrom_94 rfl
    · refine r_iload_n C dX5_worstFrom_33 2 rfl rfl ?_
      refine r_iload C dX5_worstFrom_34 4 rfl ?_
      refine r_iconst C dX5_worstFrom_36 ki_1 ?_
      refine r_isub C dX5_worstFrom_37 ?_
      refine r_callP C cas_RX5_140 ⟨rfl, rfl, Nat.le_of_ble_eq_true rfl, Nat.le_of_ble_eq_true rfl⟩ (t_X5_isIn _ x2 (x4 - (1 : Int32))) rfl (rest := []) rfl (Nat.le_of_ble_eq_true rfl) dX5_worstFrom_38 ?_
      refine r_if_eq C (tgt := 87) dX5_worstFrom_41 rfl hf (fun hf => ?_) (fun hf => ?_)
      · refine r_iinc C dX5_worstFrom_87 4 rfl (kn_1 _) (Nat.le_of_ble_eq_true rfl) (lv2 := [(4, .int (x4 + 1)), (0, .ref (A 0)), (1, .int x1), (2, .int x2), (3, .int x3)]) rfl ?_
        refine r_goto C (tgt := 26) dX5_worstFrom_90 rfl ?_
        exact r_sub [1, 2, 3, 4, 0] rfl (ih V L x3 (x4 + 1) hf)
      · refine r_aload_n C dX5_worstFrom_44 0 rfl rfl ?_
        refine r_iload_n C dX5_worstFrom_45 1 rfl rfl ?_
        refine r_iload C dX5_worstFrom_46 4 rfl ?_
        refine bd3_e hf (fun r_1 V_2 L_3 hq hf => ?_)
        refine f_callI C K cal_RX5_204 ⟨rfl, rfl, Nat.le_of_ble_eq_true rfl, Nat.le_of_ble_eq_true rfl⟩ (t_X5_outBy _ x1 x4 hq) (mw_o0 E A _ _) rfl (mw_fst _ _ _ _ _ _) rfl (rest := []) rfl (Nat.le_of_ble_eq_true rfl) dX5_worstFrom_48 ?_
        refine r_istore C dX5_worstFrom_51 (Nat.le_of_ble_eq_true rfl) (lv2 := [(5, .int r_1), (0, .ref (A 0)), (1, .int x1), (2, .int x2), (3, .int x3), (4, .int x4)]) rfl ?_
        refine r_aload_n C dX5_worstFrom_53 1 rfl rfl ?_
        refine g_RX5_62_0 C K dX5_worstFrom_54 ?_
        refine r_iload C dX5_worstFrom_57 0 rfl ?_
        refine r_dup2 C dX5_worstFrom_59 rfl rfl ?_
        refine s_iald C K (mw_a35 E A _ _) dX5_worstFrom_60 hf (fun hf => ?_)
        refine r_iconst C dX5_worstFrom_61 ki_1 ?_
        refine r_iadd C dX5_worstFrom_62 ?_
        refine s_iast C K (mw_a35 E A _ _) (fun z => mw_s35 E A _ _ _) dX5_worstFrom_63 hf (fun V_4 hf => ?_)
        refine r_aload_n C dX5_worstFrom_64 1 rfl rfl ?_
        refine g_RX5_62_0 C K dX5_worstFrom_65 ?_
        refine r_iload C dX5_worstFrom_68 0 rfl ?_
        refine s_iald C K (mw_a35 E A _ _) dX5_worstFrom_70 hf (fun hf => ?_)
        refine r_iload_n C dX5_worstFrom_71 4 rfl rfl ?_
        refine r_icmp_le C (tgt := 85) dX5_worstFrom_72 rfl hf (fun hf => ?_) (fun hf => ?_)
        · refine r_iload_n C dX5_worstFrom_85 4 rfl rfl ?_
          refine r_istore_n C dX5_worstFrom_86 rfl (Nat.le_of_ble_eq_true rfl) (lv2 := [(3, .int x3), (5, .int r_1), (0, .ref (A 0)), (1, .int x1), (2, .int x2), (4, .int x4)]) rfl ?_
          refine r_iinc C dX5_worstFrom_87 5 rfl (kn_1 _) (Nat.le_of_ble_eq_true rfl) (lv2 := [(4, .int (x4 + 1)), (3, .int x3), (5, .int r_1), (0, .ref (A 0)), (1, .int x1), (2, .int x2)]) rfl ?_
          refine r_goto C (tgt := 26) dX5_worstFrom_90 rfl ?_
          exact r_sub [3, 4, 5, 1, 0] rfl (ih V_4 L_3 x3 (x4 + 1) hf)
        · refine r_aload_n C dX5_worstFrom_75 1 rfl rfl ?_
          refine g_RX5_62_0 C K dX5_worstFrom_76 ?_
          refine r_iload C dX5_worstFrom_79 0 rfl ?_
          refine s_iald C K (mw_a35 E A _ _) dX5_worstFrom_81 hf (fun hf => ?_)
          refine r_goto C (tgt := 86) dX5_worstFrom_82 rfl ?_
          refine r_istore_n C dX5_worstFrom_86 rfl (Nat.le_of_ble_eq_true rfl) (lv2 := [(3, .int (V_4 35 r_1.toNatClampNeg)), (5, .int r_1), (0, .ref (A 0)), (1, .int x1), (2, .int x2), (4, .int x4)]) rfl ?_
          refine r_iinc C dX5_worstFrom_87 5 rfl (kn_1 _) (Nat.le_of_ble_eq_true rfl) (lv2 := [(4, .int (x4 + 1)), (3, .int (V_4 35 r_1.toNatClampNeg)), (5, .int r_1), (0, .ref (A 0)), (1, .int x1), (2, .int x2)]) rfl ?_
          refine r_goto C (tgt := 26) dX5_worstFrom_90 rfl ?_
          exact r_sub [3, 4, 5, 1, 0] rfl (ih V_4 L_3 (V_4 35 r_1.toNatClampNeg) (x4 + 1) hf)
set_option maxRecDepth 100000 in
theorem w_X5_worstFrom_2 {X : XT} {E : EvT} {Z : Nat → Prop} {Q : State → Prop} {A : Nat → Nat} (C : Cx X (.code yX5_worstFrom cX5_worstFrom 6 (some .int)) cX5_worstFrom 6 RX5 rm_X5_worstFrom.frames rm_X5_worstFrom.locals) (K : Ck X E Z) {r0 : Int32} {V0 : Nat → Nat → Int32} {L0 : Nat → Int64} (hret : RI X 6 cX5_worstFrom (IF X E Z (mw E A)) Q .int r0 (V0, L0)) (x1 : Int32) (x2 : Int32) : ∀ (n : Nat) (V : Nat → Nat → Int32) (L : Nat → Int64) (x3 : Int32), f_X5_worstFrom_2 x1 x2 n V L x3 = some (r0, V0, L0) → Wm X 6 (IF X E Z (mw E A)) Q 2 [(0, .ref (A 0)), (1, .int x1), (2, .int x2), (3, .int x3)] [] (V, L) := by
  intro n
  induction n with
  | zero =>
    intro V L x3 hf
    exact none_e hf
  | succ n ih =>
    intro V L x3 hf
    rw [f_X5_worstFrom_2] at hf
    refine r_iload_n C dX5_worstFrom_2 3 rfl rfl ?_
    refine r_bipush C dX5_worstFrom_3 kb_8 ?_
    refine r_icmp_ge C (tgt := 21) dX5_worstFrom_5 rfl hf (fun hf => ?_) (fun hf => ?_)
    · refine r_iconst C dX5_worstFrom_21 ki_0 ?_
      refine r_istore_n C dX5_worstFrom_22 rfl (Nat.le_of_ble_eq_true rfl) (lv2 := [(3, .int (0 : Int32)), (0, .ref (A 0)), (1, .int x1), (2, .int x2)]) rfl ?_
      refine r_iconst C dX5_worstFrom_23 ki_1 ?_
      refine r_istore C dX5_worstFrom_24 (Nat.le_of_ble_eq_true rfl) (lv2 := [(4, .int (1 : Int32)), (3, .int (0 : Int32)), (0, .ref (A 0)), (1, .int x1), (2, .int x2)]) rfl ?_
      exact r_sub [2, 3, 4, 1, 0] rfl (w_X5_worstFrom_26 C K hret x1 x2 20000 V L (0 : Int32) (1 : Int32) hf)
    · refine r_aload_n C dX5_worstFrom_8 0 rfl rfl ?_
      refine g_RX5_62_0 C K dX5_worstFrom_9 ?_
      refine r_iload_n C dX5_worstFrom_12 3 rfl rfl ?_
      refine r_iconst C dX5_worstFrom_13 ki_0 ?_
      refine s_iast C K (mw_a35 E A _ _) (fun z => mw_s35 E A _ _ _) dX5_worstFrom_14 hf (fun V_1 hf => ?_)
      refine r_iinc C dX5_worstFrom_15 3 rfl (kn_1 _) (Nat.le_of_ble_eq_true rfl) (lv2 := [(3, .int (x3 + 1)), (0, .ref (A 0)), (1, .int x1), (2, .int x2)]) rfl ?_
      refine r_goto C (tgt := 2) dX5_worstFrom_18 rfl ?_
      exact r_sub [1, 2, 3, 0] rfl (ih V_1 L (x3 + 1) hf)
set_option maxRecDepth 100000 in
theorem w_X5_worstFrom_0 {X : XT} {E : EvT} {Z : Nat → Prop} {Q : State → Prop} {A : Nat → Nat} (C : Cx X (.code yX5_worstFrom cX5_worstFrom 6 (some .int)) cX5_worstFrom 6 RX5 rm_X5_worstFrom.frames rm_X5_worstFrom.locals) (K : Ck X E Z) {r0 : Int32} {V0 : Nat → Nat → Int32} {L0 : Nat → Int64} (hret : RI X 6 cX5_worstFrom (IF X E Z (mw E A)) Q .int r0 (V0, L0)) : ∀ (V : Nat → Nat → Int32) (L : Nat → Int64) (x1 : Int32) (x2 : Int32), f_X5_worstFrom V L x1 x2 = some (r0, V0, L0) → Wm X 6 (IF X E Z (mw E A)) Q 0 [(0, .ref (A 0)), (1, .int x1), (2, .int x2)] [] (V, L) := by
  intro V L x1 x2 hf
  rw [f_X5_worstFrom] at hf
  refine r_iconst C dX5_worstFrom_0 ki_0 ?_
  refine r_istore_n C dX5_worstFrom_1 rfl (Nat.le_of_ble_eq_true rfl) (lv2 := [(3, .int (0 : Int32)), (0, .ref (A 0)), (1, .int x1), (2, .int x2)]) rfl ?_
  exact r_sub [1, 2, 3, 0] rfl (w_X5_worstFrom_2 C K hret x1 x2 20000 V L (0 : Int32) hf)
theorem t_X5_worstFrom (l : Launch) {E : EvT} {A : Nat → Nat} {V : Nat → Nat → Int32} {L : Nat → Int64} (x1 : Int32) (x2 : Int32) {r0 : Int32} {V0 : Nat → Nat → Int32} {L0 : Nat → Int64} (hq : f_X5_worstFrom V L x1 x2 = some (r0, V0, L0)) : KI l yX5_worstFrom (.code yX5_worstFrom cX5_worstFrom 6 (some .int) :: wA) rm_X5_worstFrom E (mw E A V L) (mw E A V0 L0) [.ref (A 0), .int x1, .int x2] r0 := by
  refine ent_I (own := RX5) (ty := .int) (lv0 := [(0, .ref (A 0)), (1, .int x1), (2, .int x2)]) (by decide) rfl rfl (Nat.le_of_ble_eq_true rfl) rfl (mw_fst _ _ _ _ _ _) ?_
  intro X Z Q hl C K hret
  exact w_X5_worstFrom_0 C K hret V L x1 x2 hq
set_option maxRecDepth 100000 in
theorem w_X5_fromNow_56 {X : XT} {E : EvT} {Z : Nat → Prop} {Q : State → Prop} {A : Nat → Nat} (C : Cx X (.code yX5_fromNow cX5_fromNow 6 (some .int)) cX5_fromNow 6 RX5 rm_X5_fromNow.frames rm_X5_fromNow.locals) (K : Ck X E Z) {r0 : Int32} {V0 : Nat → Nat → Int32} {L0 : Nat → Int64} (hret : RI X 6 cX5_fromNow (IF X E Z (mw E A)) Q .int r0 (V0, L0)) {k14 : (Nat → Nat → Int32) → (Nat → Int64) → Int32 → Int32 → Int32 → Option (Int32 × (Nat → Nat → Int32) × (Nat → Int64))} {x1 : Int32} (hk14 : ∀ (V : Nat → Nat → Int32) (L : Nat → Int64) (x2 : Int32) (x3 : Int32) (x4 : Int32), k14 V L x2 x3 x4 = some (r0, V0, L0) → Wm X 6 (IF X E Z (mw E A)) Q 14 [(0, .ref (A 0)), (1, .int x1), (2, .int x2), (3, .int x3), (4, .int x4)] [] (V, L)) : ∀ (V : Nat → Nat → Int32) (L : Nat → Int64) (x2 : Int32) (x3 : Int32) (x4 : Int32) (x5 : Int32), f_X5_fromNow_56 k14 V L x1 x2 x3 x4 x5 = some (r0, V0, L0) → Wm X 6 (IF X E Z (mw E A)) Q 56 [(0, .ref (A 0)), (1, .int x1), (2, .int x2), (3, .int x3), (4, .int x4), (5, .int x5)] [] (V, L) := by
  intro V L x2 x3 x4 x5 hf
  rw [f_X5_fromNow_56] at hf
  refine r_iload C dX5_fromNow_56 5 rfl ?_
  refine r_iload_n C dX5_fromNow_58 3 rfl rfl ?_
  refine r_icmp_ge C (tgt := 67) dX5_fromNow_59 rfl hf (fun hf => ?_) (fun hf => ?_)
  · refine r_iload_n C dX5_fromNow_67 3 rfl rfl ?_
    refine r_istore_n C dX5_fromNow_68 rfl (Nat.le_of_ble_eq_true rfl) (lv2 := [(3, .int x3), (0, .ref (A 0)), (1, .int x1), (2, .int x2), (4, .int x4), (5, .int x5)]) rfl ?_
    refine r_iinc C dX5_fromNow_69 4 rfl (kn_1 _) (Nat.le_of_ble_eq_true rfl) (lv2 := [(4, .int (x4 + 1)), (3, .int x3), (0, .ref (A 0)), (1, .int x1), (2, .int x2), (5, .int x5)]) rfl ?_
    refine r_goto C (tgt := 14) dX5_fromNow_72 rfl ?_
    exact r_sub [2, 3, 4, 1, 0] rfl (hk14 V L x2 x3 (x4 + 1) hf)
  · refine r_iload C dX5_fromNow_62 5 rfl ?_
    refine r_goto C (tgt := 68) dX5_fromNow_64 rfl ?_
    refine r_istore_n C dX5_fromNow_68 rfl (Nat.le_of_ble_eq_true rfl) (lv2 := [(3, .int x5), (0, .ref (A 0)), (1, .int x1), (2, .int x2), (4, .int x4), (5, .int x5)]) rfl ?_
    refine r_iinc C dX5_fromNow_69 4 rfl (kn_1 _) (Nat.le_of_ble_eq_true rfl) (lv2 := [(4, .int (x4 + 1)), (3, .int x5), (0, .ref (A 0)), (1, .int x1), (2, .int x2), (5, .int x5)]) rfl ?_
    refine r_goto C (tgt := 14) dX5_fromNow_72 rfl ?_
    exact r_sub [2, 3, 4, 1, 0] rfl (hk14 V L x2 x5 (x4 + 1) hf)
set_option maxRecDepth 100000 in
theorem w_X5_fromNow_14 {X : XT} {E : EvT} {Z : Nat → Prop} {Q : State → Prop} {A : Nat → Nat} (C : Cx X (.code yX5_fromNow cX5_fromNow 6 (some .int)) cX5_fromNow 6 RX5 rm_X5_fromNow.frames rm_X5_fromNow.locals) (K : Ck X E Z) {r0 : Int32} {V0 : Nat → Nat → Int32} {L0 : Nat → Int64} (hret : RI X 6 cX5_fromNow (IF X E Z (mw E A)) Q .int r0 (V0, L0)) (x1 : Int32) : ∀ (n : Nat) (V : Nat → Nat → Int32) (L : Nat → Int64) (x2 : Int32) (x3 : Int32) (x4 : Int32), f_X5_fromNow_14 x1 n V L x2 x3 x4 = some (r0, V0, L0) → Wm X 6 (IF X E Z (mw E A)) Q 14 [(0, .ref (A 0)), (1, .int x1), (2, .int x2), (3, .int x3), (4, .int x4)] [] (V, L) := by
  intro n
  induction n with
  | zero =>
    intro V L x2 x3 x4 hf
    exact none_e hf
  | succ n ih =>
    intro V L x2 x3 x4 hf
    rw [f_X5_fromNow_14] at hf
    refine r_iload C dX5_fromNow_14 4 rfl ?_
    refine r_aload_n C dX5_fromNow_16 0 rfl rfl ?_
    refine g_RX5_116_0 C K dX5_fromNow_17 ?_
    refine r_icmp_ge C (tgt := 75) dX5_fromNow_20 rfl hf (fun hf => ?_) (fun hf => ?_)
    · refine r_iload_n C dX5_fromNow_75 2 rfl rfl ?_
      exact ri_OW hret hf dX5_fromNow_76 rfl
    · refine r_iload_n C dX5_fromNow_23 1 rfl rfl ?_
      refine r_if_eq C (tgt := 75) dX5_fromNow_24 rfl hf (fun hf => ?_) (fun hf => ?_)
      · refine r_iload_n C dX5_fromNow_75 2 rfl rfl ?_
        exact ri_OW hret hf dX5_fromNow_76 rfl
      · refine r_aload_n C dX5_fromNow_27 0 rfl rfl ?_
        refine bd1_e hf (fun r_1 hq hf => ?_)
        refine f_callI C K cal_RX5_175 ⟨rfl, rfl, Nat.le_of_ble_eq_true rfl, Nat.le_of_ble_eq_true rfl⟩ (t_X5_isCount _ hq) (mw_o0 E A _ _) rfl (mw_fst _ _ _ _ _ _) rfl (rest := []) rfl (Nat.le_of_ble_eq_true rfl) dX5_fromNow_28 ?_
        refine r_if_eq C (tgt := 75) dX5_fromNow_31 rfl hf (fun hf => ?_) (fun hf => ?_)
        · refine r_iload_n C dX5_fromNow_75 2 rfl rfl ?_
          exact ri_OW hret hf dX5_fromNow_76 rfl
        · refine r_aload_n C dX5_fromNow_34 0 rfl rfl ?_
          refine r_iload C dX5_fromNow_35 4 rfl ?_
          refine r_iload_n C dX5_fromNow_37 1 rfl rfl ?_
          refine bd3_e hf (fun r_2 V_3 L_4 hq hf => ?_)
          refine f_callI C K cal_RX5_278 ⟨rfl, rfl, Nat.le_of_ble_eq_true rfl, Nat.le_of_ble_eq_true rfl⟩ (t_X5_worstFrom _ x4 x1 hq) (mw_o0 E A _ _) rfl (mw_fst _ _ _ _ _ _) rfl (rest := []) rfl (Nat.le_of_ble_eq_true rfl) dX5_fromNow_38 ?_
          refine r_istore C dX5_fromNow_41 (Nat.le_of_ble_eq_true rfl) (lv2 := [(5, .int r_2), (0, .ref (A 0)), (1, .int x1), (2, .int x2), (3, .int x3), (4, .int x4)]) rfl ?_
          refine r_iload C dX5_fromNow_43 0 rfl ?_
          refine r_iload_n C dX5_fromNow_45 4 rfl rfl ?_
          refine r_icmp_ge C (tgt := 54) dX5_fromNow_46 rfl hf (fun hf => ?_) (fun hf => ?_)
          · refine r_iload_n C dX5_fromNow_54 3 rfl rfl ?_
            refine r_istore_n C dX5_fromNow_55 rfl (Nat.le_of_ble_eq_true rfl) (lv2 := [(2, .int x2), (5, .int r_2), (0, .ref (A 0)), (1, .int x1), (3, .int x3), (4, .int x4)]) rfl ?_
            exact r_sub [2, 3, 0, 4, 5, 1] rfl (w_X5_fromNow_56 C K hret ih V_3 L_4 x2 x3 x4 r_2 hf)
          · refine r_iload C dX5_fromNow_49 5 rfl ?_
            refine r_goto C (tgt := 55) dX5_fromNow_51 rfl ?_
            refine r_istore_n C dX5_fromNow_55 rfl (Nat.le_of_ble_eq_true rfl) (lv2 := [(2, .int x4), (5, .int r_2), (0, .ref (A 0)), (1, .int x1), (3, .int x3), (4, .int x4)]) rfl ?_
            exact r_sub [2, 3, 0, 4, 5, 1] rfl (w_X5_fromNow_56 C K hret ih V_3 L_4 x4 x3 x4 r_2 hf)
set_option maxRecDepth 100000 in
theorem w_X5_fromNow_0 {X : XT} {E : EvT} {Z : Nat → Prop} {Q : State → Prop} {A : Nat → Nat} (C : Cx X (.code yX5_fromNow cX5_fromNow 6 (some .int)) cX5_fromNow 6 RX5 rm_X5_fromNow.frames rm_X5_fromNow.locals) (K : Ck X E Z) {r0 : Int32} {V0 : Nat → Nat → Int32} {L0 : Nat → Int64} (hret : RI X 6 cX5_fromNow (IF X E Z (mw E A)) Q .int r0 (V0, L0)) : ∀ (V : Nat → Nat → Int32) (L : Nat → Int64), f_X5_fromNow V L = some (r0, V0, L0) → Wm X 6 (IF X E Z (mw E A)) Q 0 [(0, .ref (A 0))] [] (V, L) := by
  intro V L hf
  rw [f_X5_fromNow] at hf
  refine r_aload_n C dX5_fromNow_0 0 rfl rfl ?_
  refine bd3_e hf (fun r_1 V_2 L_3 hq hf => ?_)
  refine f_callI C K cal_RX5_274 ⟨rfl, rfl, Nat.le_of_ble_eq_true rfl, Nat.le_of_ble_eq_true rfl⟩ (t_X5_lengthsNow _ hq) (mw_o0 E A _ _) rfl (mw_fst _ _ _ _ _ _) rfl (rest := []) rfl (Nat.le_of_ble_eq_true rfl) dX5_fromNow_1 ?_
  refine r_istore_n C dX5_fromNow_4 rfl (Nat.le_of_ble_eq_true rfl) (lv2 := [(1, .int r_1), (0, .ref (A 0))]) rfl ?_
  refine r_iconst C dX5_fromNow_5 ki_m1 ?_
  refine r_istore_n C dX5_fromNow_6 rfl (Nat.le_of_ble_eq_true rfl) (lv2 := [(2, .int (-1 : Int32)), (1, .int r_1), (0, .ref (A 0))]) rfl ?_
  refine r_ldcw C q_k_RX5_277 dX5_fromNow_7 ?_
  refine r_istore_n C dX5_fromNow_10 rfl (Nat.le_of_ble_eq_true rfl) (lv2 := [(3, .int (268435456 : Int32)), (2, .int (-1 : Int32)), (1, .int r_1), (0, .ref (A 0))]) rfl ?_
  refine r_iconst C dX5_fromNow_11 ki_0 ?_
  refine r_istore C dX5_fromNow_12 (Nat.le_of_ble_eq_true rfl) (lv2 := [(4, .int (0 : Int32)), (3, .int (268435456 : Int32)), (2, .int (-1 : Int32)), (1, .int r_1), (0, .ref (A 0))]) rfl ?_
  exact r_sub [4, 3, 2, 1, 0] rfl (w_X5_fromNow_14 C K hret r_1 20000 V_2 L_3 (-1 : Int32) (268435456 : Int32) (0 : Int32) hf)
theorem t_X5_fromNow (l : Launch) {E : EvT} {A : Nat → Nat} {V : Nat → Nat → Int32} {L : Nat → Int64} {r0 : Int32} {V0 : Nat → Nat → Int32} {L0 : Nat → Int64} (hq : f_X5_fromNow V L = some (r0, V0, L0)) : KI l yX5_fromNow (.code yX5_fromNow cX5_fromNow 6 (some .int) :: wA) rm_X5_fromNow E (mw E A V L) (mw E A V0 L0) [.ref (A 0)] r0 := by
  refine ent_I (own := RX5) (ty := .int) (lv0 := [(0, .ref (A 0))]) (by decide) rfl rfl (Nat.le_of_ble_eq_true rfl) rfl (mw_fst _ _ _ _ _ _) ?_
  intro X Z Q hl C K hret
  exact w_X5_fromNow_0 C K hret V L  hq
set_option maxRecDepth 100000 in
theorem w_X5_from_0 {X : XT} {E : EvT} {Z : Nat → Prop} {Q : State → Prop} {A : Nat → Nat} (C : Cx X (.code yX5_from cX5_from 1 (some .int)) cX5_from 1 RX5 rm_X5_from.frames rm_X5_from.locals) (K : Ck X E Z) {r0 : Int32} {V0 : Nat → Nat → Int32} {L0 : Nat → Int64} (hret : RI X 1 cX5_from (IF X E Z (mw E A)) Q .int r0 (V0, L0)) : ∀ (V : Nat → Nat → Int32) (L : Nat → Int64), f_X5_from V L = some (r0, V0, L0) → Wm X 1 (IF X E Z (mw E A)) Q 0 [(0, .ref (A 0))] [] (V, L) := by
  intro V L hf
  rw [f_X5_from] at hf
  refine r_aload_n C dX5_from_0 0 rfl rfl ?_
  refine g_RX5_116_0 C K dX5_from_1 ?_
  refine r_if_ne C (tgt := 12) dX5_from_4 rfl hf (fun hf => ?_) (fun hf => ?_)
  · refine r_aload_n C dX5_from_12 0 rfl rfl ?_
    refine bd3_e hf (fun r_1 V_2 L_3 hq hf => ?_)
    refine f_callI C K cal_RX5_281 ⟨rfl, rfl, Nat.le_of_ble_eq_true rfl, Nat.le_of_ble_eq_true rfl⟩ (t_X5_fromNow _ hq) (mw_o0 E A _ _) rfl (mw_fst _ _ _ _ _ _) rfl (rest := []) rfl (Nat.le_of_ble_eq_true rfl) dX5_from_13 ?_
    exact ri_OW hret hf dX5_from_16 rfl
  · refine r_bipush C dX5_from_7 kb_m103 ?_
    refine r_goto C (tgt := 16) dX5_from_9 rfl ?_
    exact ri_OW hret hf dX5_from_16 rfl
theorem t_X5_from (l : Launch) {E : EvT} {A : Nat → Nat} {V : Nat → Nat → Int32} {L : Nat → Int64} {r0 : Int32} {V0 : Nat → Nat → Int32} {L0 : Nat → Int64} (hq : f_X5_from V L = some (r0, V0, L0)) : KI l yX5_from (.code yX5_from cX5_from 1 (some .int) :: wA) rm_X5_from E (mw E A V L) (mw E A V0 L0) [.ref (A 0)] r0 := by
  refine ent_I (own := RX5) (ty := .int) (lv0 := [(0, .ref (A 0))]) (by decide) rfl rfl (Nat.le_of_ble_eq_true rfl) rfl (mw_fst _ _ _ _ _ _) ?_
  intro X Z Q hl C K hret
  exact w_X5_from_0 C K hret V L  hq
set_option maxRecDepth 100000 in
theorem w_X5_draw_0 {X : XT} {E : EvT} {Z : Nat → Prop} {Q : State → Prop} {A : Nat → Nat} (C : Cx X (.code yX5_draw cX5_draw 2 (some .int)) cX5_draw 2 RX5 rm_X5_draw.frames rm_X5_draw.locals) (K : Ck X E Z) {r0 : Int32} {V0 : Nat → Nat → Int32} {L0 : Nat → Int64} (hret : RI X 2 cX5_draw (IF X E Z (mw E A)) Q .int r0 (V0, L0)) : ∀ (V : Nat → Nat → Int32) (L : Nat → Int64) (x1 : Int32), f_X5_draw V L x1 = some (r0, V0, L0) → Wm X 2 (IF X E Z (mw E A)) Q 0 [(0, .ref (A 0)), (1, .int x1)] [] (V, L) := by
  intro V L x1 hf
  rw [f_X5_draw] at hf
  refine r_aload_n C dX5_draw_0 0 rfl rfl ?_
  refine r_ldc2 C q_kl_RX5_284 dX5_draw_1 ?_
  refine r_aload_n C dX5_draw_4 0 rfl rfl ?_
  refine g_RX5_286_0 C K dX5_draw_5 ?_
  refine r_lmul C dX5_draw_8 ?_
  refine r_ldc2 C q_kl_RX5_290 dX5_draw_9 ?_
  refine r_ladd C dX5_draw_12 ?_
  refine r_ldc2 C q_kl_RX5_292 dX5_draw_13 ?_
  refine r_land C dX5_draw_16 ?_
  refine p_RX5_286_0 C K dX5_draw_17 hf (fun L_1 hf => ?_)
  refine r_aload_n C dX5_draw_20 0 rfl rfl ?_
  refine g_RX5_286_0 C K dX5_draw_21 ?_
  refine r_ldc2 C q_kl_RX5_294 dX5_draw_24 ?_
  refine r_ldiv C dX5_draw_27 (by decide) ?_
  refine r_iload_n C dX5_draw_28 1 rfl rfl ?_
  refine r_i2l C dX5_draw_29 ?_
  refine gd_ni hf (fun hne hf => ?_)
  refine p_lrem C dX5_draw_30 hne ?_
  refine r_l2i C dX5_draw_31 ?_
  exact ri_OW hret hf dX5_draw_32 rfl
theorem t_X5_draw (l : Launch) {E : EvT} {A : Nat → Nat} {V : Nat → Nat → Int32} {L : Nat → Int64} (x1 : Int32) {r0 : Int32} {V0 : Nat → Nat → Int32} {L0 : Nat → Int64} (hq : f_X5_draw V L x1 = some (r0, V0, L0)) : KI l yX5_draw (.code yX5_draw cX5_draw 2 (some .int) :: wA) rm_X5_draw E (mw E A V L) (mw E A V0 L0) [.ref (A 0), .int x1] r0 := by
  refine ent_I (own := RX5) (ty := .int) (lv0 := [(0, .ref (A 0)), (1, .int x1)]) (by decide) rfl rfl (Nat.le_of_ble_eq_true rfl) rfl (mw_fst _ _ _ _ _ _) ?_
  intro X Z Q hl C K hret
  exact w_X5_draw_0 C K hret V L x1 hq
set_option maxRecDepth 100000 in
theorem w_X5_roundsNow_104 {X : XT} {E : EvT} {Z : Nat → Prop} {Q : State → Prop} {A : Nat → Nat} (C : Cx X (.code yX5_roundsNow cX5_roundsNow 6 (some .int)) cX5_roundsNow 6 RX5 rm_X5_roundsNow.frames rm_X5_roundsNow.locals) (K : Ck X E Z) {r0 : Int32} {V0 : Nat → Nat → Int32} {L0 : Nat → Int64} (hret : RI X 6 cX5_roundsNow (IF X E Z (mw E A)) Q .int r0 (V0, L0)) : ∀ (V : Nat → Nat → Int32) (L : Nat → Int64) (x5 : Int32), f_X5_roundsNow_104 V L x5 = some (r0, V0, L0) → Wm X 6 (IF X E Z (mw E A)) Q 104 [(0, .ref (A 0)), (5, .int x5)] [] (V, L) := by
  intro V L x5 hf
  rw [f_X5_roundsNow_104] at hf
  refine r_aload_n C dX5_roundsNow_104 0 rfl rfl ?_
  refine bd2_e hf (fun V_1 L_2 hq hf => ?_)
  refine f_callV C K cal_RX5_188 ⟨rfl, rfl, Nat.le_of_ble_eq_true rfl, Nat.le_of_ble_eq_true rfl⟩ (t_X5_load _ hq) (mw_o0 E A _ _) rfl (mw_fst _ _ _ _ _ _) rfl (rest := []) rfl (Nat.le_of_ble_eq_true rfl) dX5_roundsNow_105 ?_
  refine r_iload C dX5_roundsNow_108 1 rfl ?_
  exact ri_OW hret hf dX5_roundsNow_110 rfl
set_option maxRecDepth 100000 in
theorem w_X5_roundsNow_16 {X : XT} {E : EvT} {Z : Nat → Prop} {Q : State → Prop} {A : Nat → Nat} (C : Cx X (.code yX5_roundsNow cX5_roundsNow 6 (some .int)) cX5_roundsNow 6 RX5 rm_X5_roundsNow.frames rm_X5_roundsNow.locals) (K : Ck X E Z) {r0 : Int32} {V0 : Nat → Nat → Int32} {L0 : Nat → Int64} (hret : RI X 6 cX5_roundsNow (IF X E Z (mw E A)) Q .int r0 (V0, L0)) (x1 : Int32) (x3 : Int32) : ∀ (n : Nat) (V : Nat → Nat → Int32) (L : Nat → Int64) (x4 : Int32) (x5 : Int32), f_X5_roundsNow_16 x1 x3 n V L x4 x5 = some (r0, V0, L0) → Wm X 6 (IF X E Z (mw E A)) Q 16 [(0, .ref (A 0)), (1, .int x1), (3, .int x3), (4, .int x4), (5, .int x5)] [] (V, L) := by
  intro n
  induction n with
  | zero =>
    intro V L x4 x5 hf
    exact none_e hf
  | succ n ih =>
    intro V L x4 x5 hf
    rw [f_X5_roundsNow_16] at hf
    refine r_iload C dX5_roundsNow_16 4 rfl ?_
    refine r_iload_n C dX5_roundsNow_18 1 rfl rfl ?_
    refine r_icmp_ge C (tgt := 76) dX5_roundsNow_19 rfl hf (fun hf => ?_) (fun hf => ?_)
    · refine r_iload_n C dX5_roundsNow_76 2 rfl rfl ?_
      refine r_if_ne C (tgt := 85) dX5_roundsNow_77 rfl hf (fun hf => ?_) (fun hf => ?_)
      · refine r_iload_n C dX5_roundsNow_85 2 rfl rfl ?_
        refine r_iconst C dX5_roundsNow_86 ki_1 ?_
        refine r_icmp_ne C (tgt := 97) dX5_roundsNow_87 rfl hf (fun hf => ?_) (fun hf => ?_)
        · refine r_aload_n C dX5_roundsNow_97 0 rfl rfl ?_
          refine g_RX5_286_0 C K dX5_roundsNow_98 ?_
          refine r_l2i C dX5_roundsNow_101 ?_
          refine r_istore C dX5_roundsNow_102 (Nat.le_of_ble_eq_true rfl) (lv2 := [(5, .int ((L 36).toInt32)), (0, .ref (A 0)), (1, .int x1), (3, .int x3), (4, .int x4)]) rfl ?_
          exact r_sub [1, 0] rfl (w_X5_roundsNow_104 C K hret V L ((L 36).toInt32) hf)
        · refine r_aload_n C dX5_roundsNow_90 0 rfl rfl ?_
          refine g_RX5_125_0 C K dX5_roundsNow_91 ?_
          refine r_goto C (tgt := 102) dX5_roundsNow_94 rfl ?_
          refine r_istore C dX5_roundsNow_102 (Nat.le_of_ble_eq_true rfl) (lv2 := [(5, .int (V 0 7)), (0, .ref (A 0)), (1, .int x1), (3, .int x3), (4, .int x4)]) rfl ?_
          exact r_sub [1, 0] rfl (w_X5_roundsNow_104 C K hret V L (V 0 7) hf)
      · refine r_iload C dX5_roundsNow_80 3 rfl ?_
        refine r_goto C (tgt := 102) dX5_roundsNow_82 rfl ?_
        refine r_istore C dX5_roundsNow_102 (Nat.le_of_ble_eq_true rfl) (lv2 := [(5, .int x4), (0, .ref (A 0)), (1, .int x1), (3, .int x3), (4, .int x4)]) rfl ?_
        exact r_sub [1, 0] rfl (w_X5_roundsNow_104 C K hret V L x4 hf)
    · refine r_aload_n C dX5_roundsNow_22 0 rfl rfl ?_
      refine bd1_e hf (fun r_1 hq hf => ?_)
      refine f_callI C K cal_RX5_175 ⟨rfl, rfl, Nat.le_of_ble_eq_true rfl, Nat.le_of_ble_eq_true rfl⟩ (t_X5_isCount _ hq) (mw_o0 E A _ _) rfl (mw_fst _ _ _ _ _ _) rfl (rest := []) rfl (Nat.le_of_ble_eq_true rfl) dX5_roundsNow_23 ?_
      refine r_if_eq C (tgt := 50) dX5_roundsNow_26 rfl hf (fun hf => ?_) (fun hf => ?_)
      · refine r_aload_n C dX5_roundsNow_50 0 rfl rfl ?_
        refine r_iconst C dX5_roundsNow_51 ki_1 ?_
        refine r_aload_n C dX5_roundsNow_52 0 rfl rfl ?_
        refine g_RX5_116_0 C K dX5_roundsNow_53 ?_
        refine p_ishl C dX5_roundsNow_56 ?_
        refine r_iconst C dX5_roundsNow_57 ki_1 ?_
        refine r_isub C dX5_roundsNow_58 ?_
        refine p_RX5_119_0 C K dX5_roundsNow_59 hf (fun V_2 hf => ?_)
        refine r_aload_n C dX5_roundsNow_62 0 rfl rfl ?_
        refine r_iconst C dX5_roundsNow_63 ki_0 ?_
        refine p_RX5_122_0 C K dX5_roundsNow_64 hf (fun V_3 hf => ?_)
        refine r_iinc C dX5_roundsNow_67 3 rfl (kn_1 _) (Nat.le_of_ble_eq_true rfl) (lv2 := [(4, .int (x4 + 1)), (0, .ref (A 0)), (1, .int x1), (3, .int x3), (5, .int x5)]) rfl ?_
        refine r_iinc C dX5_roundsNow_70 4 rfl (kn_1 _) (Nat.le_of_ble_eq_true rfl) (lv2 := [(5, .int (x5 + 1)), (4, .int (x4 + 1)), (0, .ref (A 0)), (1, .int x1), (3, .int x3)]) rfl ?_
        refine r_goto C (tgt := 16) dX5_roundsNow_73 rfl ?_
        exact r_sub [2, 3, 4, 1, 0] rfl (ih V_3 L (x4 + 1) (x5 + 1) hf)
      · refine r_aload_n C dX5_roundsNow_29 0 rfl rfl ?_
        refine r_aload_n C dX5_roundsNow_30 0 rfl rfl ?_
        refine g_RX5_7_0 C K dX5_roundsNow_31 ?_
        refine r_aload_n C dX5_roundsNow_34 0 rfl rfl ?_
        refine r_aload_n C dX5_roundsNow_35 0 rfl rfl ?_
        refine g_RX5_113_0 C K dX5_roundsNow_36 ?_
        refine bd3_e hf (fun r_4 V_5 L_6 hq hf => ?_)
        refine f_callI C K cal_RX5_296 ⟨rfl, rfl, Nat.le_of_ble_eq_true rfl, Nat.le_of_ble_eq_true rfl⟩ (t_X5_draw _ (V 0 2) hq) (mw_o0 E A _ _) rfl (mw_fst _ _ _ _ _ _) rfl (rest := [.ref (A 3), .ref (A 0)]) rfl (Nat.le_of_ble_eq_true rfl) dX5_roundsNow_39 ?_
        refine s_iald C K (mw_a3 E A _ _) dX5_roundsNow_42 hf (fun hf => ?_)
        refine bd3_e hf (fun r_7 V_8 L_9 hq hf => ?_)
        refine f_callI C K cal_RX5_179 ⟨rfl, rfl, Nat.le_of_ble_eq_true rfl, Nat.le_of_ble_eq_true rfl⟩ (t_X5_goCount _ (V_5 3 r_4.toNatClampNeg) hq) (mw_o0 E A _ _) rfl (mw_fst _ _ _ _ _ _) rfl (rest := []) rfl (Nat.le_of_ble_eq_true rfl) dX5_roundsNow_43 ?_
        refine r_pop C dX5_roundsNow_46 rfl ?_
        refine r_goto C (tgt := 70) dX5_roundsNow_47 rfl ?_
        refine r_iinc C dX5_roundsNow_70 4 rfl (kn_1 _) (Nat.le_of_ble_eq_true rfl) (lv2 := [(5, .int (x5 + 1)), (0, .ref (A 0)), (1, .int x1), (3, .int x3), (4, .int x4)]) rfl ?_
        refine r_goto C (tgt := 16) dX5_roundsNow_73 rfl ?_
        exact r_sub [1, 2, 3, 4, 0] rfl (ih V_8 L_9 x4 (x5 + 1) hf)
set_option maxRecDepth 100000 in
theorem w_X5_roundsNow_0 {X : XT} {E : EvT} {Z : Nat → Prop} {Q : State → Prop} {A : Nat → Nat} (C : Cx X (.code yX5_roundsNow cX5_roundsNow 6 (some .int)) cX5_roundsNow 6 RX5 rm_X5_roundsNow.frames rm_X5_roundsNow.locals) (K : Ck X E Z) {r0 : Int32} {V0 : Nat → Nat → Int32} {L0 : Nat → Int64} (hret : RI X 6 cX5_roundsNow (IF X E Z (mw E A)) Q .int r0 (V0, L0)) : ∀ (V : Nat → Nat → Int32) (L : Nat → Int64) (x1 : Int32) (x2 : Int32) (x3 : Int32), f_X5_roundsNow V L x1 x2 x3 = some (r0, V0, L0) → Wm X 6 (IF X E Z (mw E A)) Q 0 [(0, .ref (A 0)), (1, .int x1), (2, .int x2), (3, .int x3)] [] (V, L) := by
  intro V L x1 x2 x3 hf
  rw [f_X5_roundsNow] at hf
  refine r_aload_n C dX5_roundsNow_0 0 rfl rfl ?_
  refine bd2_e hf (fun V_1 L_2 hq hf => ?_)
  refine f_callV C K cal_RX5_182 ⟨rfl, rfl, Nat.le_of_ble_eq_true rfl, Nat.le_of_ble_eq_true rfl⟩ (t_X5_save _ hq) (mw_o0 E A _ _) rfl (mw_fst _ _ _ _ _ _) rfl (rest := []) rfl (Nat.le_of_ble_eq_true rfl) dX5_roundsNow_1 ?_
  refine r_aload_n C dX5_roundsNow_4 0 rfl rfl ?_
  refine r_iload_n C dX5_roundsNow_5 2 rfl rfl ?_
  refine r_i2l C dX5_roundsNow_6 ?_
  refine p_RX5_286_0 C K dX5_roundsNow_7 hf (fun L_3 hf => ?_)
  refine r_iconst C dX5_roundsNow_10 ki_0 ?_
  refine r_istore C dX5_roundsNow_11 (Nat.le_of_ble_eq_true rfl) (lv2 := [(4, .int (0 : Int32)), (0, .ref (A 0)), (1, .int x1), (2, .int x2), (3, .int x3)]) rfl ?_
  refine r_iconst C dX5_roundsNow_13 ki_0 ?_
  refine r_istore C dX5_roundsNow_14 (Nat.le_of_ble_eq_true rfl) (lv2 := [(5, .int (0 : Int32)), (4, .int (0 : Int32)), (0, .ref (A 0)), (1, .int x1), (2, .int x2), (3, .int x3)]) rfl ?_
  exact r_sub [2, 3, 5, 1, 0] rfl (w_X5_roundsNow_16 C K hret x1 x3 20000 V_1 L_3 (0 : Int32) (0 : Int32) hf)
theorem t_X5_roundsNow (l : Launch) {E : EvT} {A : Nat → Nat} {V : Nat → Nat → Int32} {L : Nat → Int64} (x1 : Int32) (x2 : Int32) (x3 : Int32) {r0 : Int32} {V0 : Nat → Nat → Int32} {L0 : Nat → Int64} (hq : f_X5_roundsNow V L x1 x2 x3 = some (r0, V0, L0)) : KI l yX5_roundsNow (.code yX5_roundsNow cX5_roundsNow 6 (some .int) :: wA) rm_X5_roundsNow E (mw E A V L) (mw E A V0 L0) [.ref (A 0), .int x1, .int x2, .int x3] r0 := by
  refine ent_I (own := RX5) (ty := .int) (lv0 := [(0, .ref (A 0)), (1, .int x1), (2, .int x2), (3, .int x3)]) (by decide) rfl rfl (Nat.le_of_ble_eq_true rfl) rfl (mw_fst _ _ _ _ _ _) ?_
  intro X Z Q hl C K hret
  exact w_X5_roundsNow_0 C K hret V L x1 x2 x3 hq
set_option maxRecDepth 100000 in
theorem w_X5_rounds_0 {X : XT} {E : EvT} {Z : Nat → Prop} {Q : State → Prop} {A : Nat → Nat} (C : Cx X (.code yX5_rounds cX5_rounds 4 (some .int)) cX5_rounds 4 RX5 rm_X5_rounds.frames rm_X5_rounds.locals) (K : Ck X E Z) {r0 : Int32} {V0 : Nat → Nat → Int32} {L0 : Nat → Int64} (hret : RI X 4 cX5_rounds (IF X E Z (mw E A)) Q .int r0 (V0, L0)) : ∀ (V : Nat → Nat → Int32) (L : Nat → Int64) (x1 : Int32) (x2 : Int32) (x3 : Int32), f_X5_rounds V L x1 x2 x3 = some (r0, V0, L0) → Wm X 4 (IF X E Z (mw E A)) Q 0 [(0, .ref (A 0)), (1, .int x1), (2, .int x2), (3, .int x3)] [] (V, L) := by
  intro V L x1 x2 x3 hf
  rw [f_X5_rounds] at hf
  refine r_iload_n C dX5_rounds_0 1 rfl rfl ?_
  refine r_iconst C dX5_rounds_1 ki_1 ?_
  refine r_bipush C dX5_rounds_2 kb_60 ?_
  refine r_callP C cas_RX5_77 ⟨rfl, rfl, Nat.le_of_ble_eq_true rfl, Nat.le_of_ble_eq_true rfl⟩ (t_X5_within _ x1 (1 : Int32) (60 : Int32)) rfl (rest := []) rfl (Nat.le_of_ble_eq_true rfl) dX5_rounds_4 ?_
  refine r_if_eq C (tgt := 23) dX5_rounds_7 rfl hf (fun hf => ?_) (fun hf => ?_)
  · refine r_bipush C dX5_rounds_23 kb_m102 ?_
    exact ri_OW hret hf dX5_rounds_25 rfl
  · refine r_iload_n C dX5_rounds_10 2 rfl rfl ?_
    refine r_if_lt C (tgt := 23) dX5_rounds_11 rfl hf (fun hf => ?_) (fun hf => ?_)
    · refine r_bipush C dX5_rounds_23 kb_m102 ?_
      exact ri_OW hret hf dX5_rounds_25 rfl
    · refine r_iload_n C dX5_rounds_14 3 rfl rfl ?_
      refine r_iconst C dX5_rounds_15 ki_0 ?_
      refine r_iconst C dX5_rounds_16 ki_2 ?_
      refine r_callP C cas_RX5_77 ⟨rfl, rfl, Nat.le_of_ble_eq_true rfl, Nat.le_of_ble_eq_true rfl⟩ (t_X5_within _ x3 (0 : Int32) (2 : Int32)) rfl (rest := []) rfl (Nat.le_of_ble_eq_true rfl) dX5_rounds_17 ?_
      refine r_if_ne C (tgt := 26) dX5_rounds_20 rfl hf (fun hf => ?_) (fun hf => ?_)
      · refine r_aload_n C dX5_rounds_26 0 rfl rfl ?_
        refine g_RX5_116_0 C K dX5_rounds_27 ?_
        refine r_if_ne C (tgt := 38) dX5_rounds_30 rfl hf (fun hf => ?_) (fun hf => ?_)
        · refine r_aload_n C dX5_rounds_38 0 rfl rfl ?_
          refine r_iload_n C dX5_rounds_39 1 rfl rfl ?_
          refine r_iload_n C dX5_rounds_40 2 rfl rfl ?_
          refine r_iload_n C dX5_rounds_41 3 rfl rfl ?_
          refine bd3_e hf (fun r_1 V_2 L_3 hq hf => ?_)
          refine f_callI C K cal_RX5_299 ⟨rfl, rfl, Nat.le_of_ble_eq_true rfl, Nat.le_of_ble_eq_true rfl⟩ (t_X5_roundsNow _ x1 x2 x3 hq) (mw_o0 E A _ _) rfl (mw_fst _ _ _ _ _ _) rfl (rest := []) rfl (Nat.le_of_ble_eq_true rfl) dX5_rounds_42 ?_
          exact ri_OW hret hf dX5_rounds_45 rfl
        · refine r_bipush C dX5_rounds_33 kb_m103 ?_
          refine r_goto C (tgt := 45) dX5_rounds_35 rfl ?_
          exact ri_OW hret hf dX5_rounds_45 rfl
      · refine r_bipush C dX5_rounds_23 kb_m102 ?_
        exact ri_OW hret hf dX5_rounds_25 rfl
theorem t_X5_rounds (l : Launch) {E : EvT} {A : Nat → Nat} {V : Nat → Nat → Int32} {L : Nat → Int64} (x1 : Int32) (x2 : Int32) (x3 : Int32) {r0 : Int32} {V0 : Nat → Nat → Int32} {L0 : Nat → Int64} (hq : f_X5_rounds V L x1 x2 x3 = some (r0, V0, L0)) : KI l yX5_rounds (.code yX5_rounds cX5_rounds 4 (some .int) :: wA) rm_X5_rounds E (mw E A V L) (mw E A V0 L0) [.ref (A 0), .int x1, .int x2, .int x3] r0 := by
  refine ent_I (own := RX5) (ty := .int) (lv0 := [(0, .ref (A 0)), (1, .int x1), (2, .int x2), (3, .int x3)]) (by decide) rfl rfl (Nat.le_of_ble_eq_true rfl) rfl (mw_fst _ _ _ _ _ _) ?_
  intro X Z Q hl C K hret
  exact w_X5_rounds_0 C K hret V L x1 x2 x3 hq
set_option maxRecDepth 100000 in
theorem w_X5_image_124 {X : XT} {E : EvT} {Z : Nat → Prop} {Q : State → Prop} {A : Nat → Nat} (C : Cx X (.code yX5_image cX5_image 2 (some .int)) cX5_image 2 RX5 rm_X5_image.frames rm_X5_image.locals) (K : Ck X E Z) {r0 : Int32} {V0 : Nat → Nat → Int32} {L0 : Nat → Int64} (hret : RI X 2 cX5_image (IF X E Z (mw E A)) Q .int r0 (V0, L0)) : ∀ (n : Nat) (V : Nat → Nat → Int32) (L : Nat → Int64) (x1 : Int32), f_X5_image_124 n V L x1 = some (r0, V0, L0) → Wm X 2 (IF X E Z (mw E A)) Q 124 [(0, .ref (A 0)), (1, .int x1)] [] (V, L) := by
  intro n
  induction n with
  | zero =>
    intro V L x1 hf
    exact none_e hf
  | succ n ih =>
    intro V L x1 hf
    rw [f_X5_image_124] at hf
    refine r_iload_n C dX5_image_124 1 rfl rfl ?_
    refine r_bipush C dX5_image_125 kb_6 ?_
    refine r_icmp_ge C (tgt := 160) dX5_image_127 rfl hf (fun hf => ?_) (fun hf => ?_)
    · refine r_aload_n C dX5_image_160 0 rfl rfl ?_
      refine g_RX5_131_0 C K dX5_image_161 ?_
      exact ri_OW hret hf dX5_image_164 rfl
    · refine r_aload_n C dX5_image_130 0 rfl rfl ?_
      refine g_RX5_71_0 C K dX5_image_131 ?_
      refine r_iload_n C dX5_image_134 1 rfl rfl ?_
      refine r_aload_n C dX5_image_135 0 rfl rfl ?_
      refine g_RX5_16_0 C K dX5_image_136 ?_
      refine r_iload_n C dX5_image_139 1 rfl rfl ?_
      refine s_iald C K (mw_a11 E A _ _) dX5_image_140 hf (fun hf => ?_)
      refine s_iast C K (mw_a47 E A _ _) (fun z => mw_s47 E A _ _ _) dX5_image_141 hf (fun V_1 hf => ?_)
      refine r_aload_n C dX5_image_142 0 rfl rfl ?_
      refine g_RX5_74_0 C K dX5_image_143 ?_
      refine r_iload_n C dX5_image_146 1 rfl rfl ?_
      refine r_aload_n C dX5_image_147 0 rfl rfl ?_
      refine g_RX5_19_0 C K dX5_image_148 ?_
      refine r_iload_n C dX5_image_151 1 rfl rfl ?_
      refine s_iald C K (mw_a12 E A _ _) dX5_image_152 hf (fun hf => ?_)
      refine s_iast C K (mw_a48 E A _ _) (fun z => mw_s48 E A _ _ _) dX5_image_153 hf (fun V_2 hf => ?_)
      refine r_iinc C dX5_image_154 1 rfl (kn_1 _) (Nat.le_of_ble_eq_true rfl) (lv2 := [(1, .int (x1 + 1)), (0, .ref (A 0))]) rfl ?_
      refine r_goto C (tgt := 124) dX5_image_157 rfl ?_
      exact r_sub [1, 0] rfl (ih V_2 L (x1 + 1) hf)
set_option maxRecDepth 100000 in
theorem w_X5_image_99 {X : XT} {E : EvT} {Z : Nat → Prop} {Q : State → Prop} {A : Nat → Nat} (C : Cx X (.code yX5_image cX5_image 2 (some .int)) cX5_image 2 RX5 rm_X5_image.frames rm_X5_image.locals) (K : Ck X E Z) {r0 : Int32} {V0 : Nat → Nat → Int32} {L0 : Nat → Int64} (hret : RI X 2 cX5_image (IF X E Z (mw E A)) Q .int r0 (V0, L0)) : ∀ (n : Nat) (V : Nat → Nat → Int32) (L : Nat → Int64) (x1 : Int32), f_X5_image_99 n V L x1 = some (r0, V0, L0) → Wm X 2 (IF X E Z (mw E A)) Q 99 [(0, .ref (A 0)), (1, .int x1)] [] (V, L) := by
  intro n
  induction n with
  | zero =>
    intro V L x1 hf
    exact none_e hf
  | succ n ih =>
    intro V L x1 hf
    rw [f_X5_image_99] at hf
    refine r_iload_n C dX5_image_99 1 rfl rfl ?_
    refine r_iconst C dX5_image_100 ki_3 ?_
    refine r_icmp_ge C (tgt := 122) dX5_image_101 rfl hf (fun hf => ?_) (fun hf => ?_)
    · refine r_iconst C dX5_image_122 ki_0 ?_
      refine r_istore_n C dX5_image_123 rfl (Nat.le_of_ble_eq_true rfl) (lv2 := [(1, .int (0 : Int32)), (0, .ref (A 0))]) rfl ?_
      exact r_sub [1, 0] rfl (w_X5_image_124 C K hret 20000 V L (0 : Int32) hf)
    · refine r_aload_n C dX5_image_104 0 rfl rfl ?_
      refine g_RX5_68_0 C K dX5_image_105 ?_
      refine r_iload_n C dX5_image_108 1 rfl rfl ?_
      refine r_aload_n C dX5_image_109 0 rfl rfl ?_
      refine g_RX5_7_0 C K dX5_image_110 ?_
      refine r_iload_n C dX5_image_113 1 rfl rfl ?_
      refine s_iald C K (mw_a3 E A _ _) dX5_image_114 hf (fun hf => ?_)
      refine s_iast C K (mw_a46 E A _ _) (fun z => mw_s46 E A _ _ _) dX5_image_115 hf (fun V_1 hf => ?_)
      refine r_iinc C dX5_image_116 1 rfl (kn_1 _) (Nat.le_of_ble_eq_true rfl) (lv2 := [(1, .int (x1 + 1)), (0, .ref (A 0))]) rfl ?_
      refine r_goto C (tgt := 99) dX5_image_119 rfl ?_
      exact r_sub [1, 0] rfl (ih V_1 L (x1 + 1) hf)
set_option maxRecDepth 100000 in
theorem w_X5_image_73 {X : XT} {E : EvT} {Z : Nat → Prop} {Q : State → Prop} {A : Nat → Nat} (C : Cx X (.code yX5_image cX5_image 2 (some .int)) cX5_image 2 RX5 rm_X5_image.frames rm_X5_image.locals) (K : Ck X E Z) {r0 : Int32} {V0 : Nat → Nat → Int32} {L0 : Nat → Int64} (hret : RI X 2 cX5_image (IF X E Z (mw E A)) Q .int r0 (V0, L0)) : ∀ (n : Nat) (V : Nat → Nat → Int32) (L : Nat → Int64) (x1 : Int32), f_X5_image_73 n V L x1 = some (r0, V0, L0) → Wm X 2 (IF X E Z (mw E A)) Q 73 [(0, .ref (A 0)), (1, .int x1)] [] (V, L) := by
  intro n
  induction n with
  | zero =>
    intro V L x1 hf
    exact none_e hf
  | succ n ih =>
    intro V L x1 hf
    rw [f_X5_image_73] at hf
    refine r_iload_n C dX5_image_73 1 rfl rfl ?_
    refine r_bipush C dX5_image_74 kb_8 ?_
    refine r_icmp_ge C (tgt := 97) dX5_image_76 rfl hf (fun hf => ?_) (fun hf => ?_)
    · refine r_iconst C dX5_image_97 ki_0 ?_
      refine r_istore_n C dX5_image_98 rfl (Nat.le_of_ble_eq_true rfl) (lv2 := [(1, .int (0 : Int32)), (0, .ref (A 0))]) rfl ?_
      exact r_sub [1, 0] rfl (w_X5_image_99 C K hret 20000 V L (0 : Int32) hf)
    · refine r_aload_n C dX5_image_79 0 rfl rfl ?_
      refine g_RX5_65_0 C K dX5_image_80 ?_
      refine r_iload_n C dX5_image_83 1 rfl rfl ?_
      refine r_aload_n C dX5_image_84 0 rfl rfl ?_
      refine g_RX5_13_0 C K dX5_image_85 ?_
      refine r_iload_n C dX5_image_88 1 rfl rfl ?_
      refine s_iald C K (mw_a4 E A _ _) dX5_image_89 hf (fun hf => ?_)
      refine s_iast C K (mw_a45 E A _ _) (fun z => mw_s45 E A _ _ _) dX5_image_90 hf (fun V_1 hf => ?_)
      refine r_iinc C dX5_image_91 1 rfl (kn_1 _) (Nat.le_of_ble_eq_true rfl) (lv2 := [(1, .int (x1 + 1)), (0, .ref (A 0))]) rfl ?_
      refine r_goto C (tgt := 73) dX5_image_94 rfl ?_
      exact r_sub [1, 0] rfl (ih V_1 L (x1 + 1) hf)
set_option maxRecDepth 100000 in
theorem w_X5_image_0 {X : XT} {E : EvT} {Z : Nat → Prop} {Q : State → Prop} {A : Nat → Nat} (C : Cx X (.code yX5_image cX5_image 2 (some .int)) cX5_image 2 RX5 rm_X5_image.frames rm_X5_image.locals) (K : Ck X E Z) {r0 : Int32} {V0 : Nat → Nat → Int32} {L0 : Nat → Int64} (hret : RI X 2 cX5_image (IF X E Z (mw E A)) Q .int r0 (V0, L0)) : ∀ (V : Nat → Nat → Int32) (L : Nat → Int64), f_X5_image V L = some (r0, V0, L0) → Wm X 2 (IF X E Z (mw E A)) Q 0 [(0, .ref (A 0))] [] (V, L) := by
  intro V L hf
  rw [f_X5_image] at hf
  refine r_aload_n C dX5_image_0 0 rfl rfl ?_
  refine g_RX5_116_0 C K dX5_image_1 ?_
  refine r_if_ne C (tgt := 10) dX5_image_4 rfl hf (fun hf => ?_) (fun hf => ?_)
  · refine r_aload_n C dX5_image_10 0 rfl rfl ?_
    refine r_iconst C dX5_image_11 ki_1 ?_
    refine p_RX5_302_0 rfl C K dX5_image_12 hf (fun V_1 hf => ?_)
    refine r_aload_n C dX5_image_15 0 rfl rfl ?_
    refine r_aload_n C dX5_image_16 0 rfl rfl ?_
    refine g_RX5_134_0 C K dX5_image_17 ?_
    refine p_RX5_305_0 C K dX5_image_20 hf (fun V_2 hf => ?_)
    refine r_aload_n C dX5_image_23 0 rfl rfl ?_
    refine r_aload_n C dX5_image_24 0 rfl rfl ?_
    refine g_RX5_119_0 C K dX5_image_25 ?_
    refine p_RX5_308_0 C K dX5_image_28 hf (fun V_3 hf => ?_)
    refine r_aload_n C dX5_image_31 0 rfl rfl ?_
    refine r_aload_n C dX5_image_32 0 rfl rfl ?_
    refine g_RX5_122_0 C K dX5_image_33 ?_
    refine p_RX5_311_0 C K dX5_image_36 hf (fun V_4 hf => ?_)
    refine r_aload_n C dX5_image_39 0 rfl rfl ?_
    refine r_aload_n C dX5_image_40 0 rfl rfl ?_
    refine g_RX5_125_0 C K dX5_image_41 ?_
    refine p_RX5_314_0 C K dX5_image_44 hf (fun V_5 hf => ?_)
    refine r_aload_n C dX5_image_47 0 rfl rfl ?_
    refine r_aload_n C dX5_image_48 0 rfl rfl ?_
    refine g_RX5_128_0 C K dX5_image_49 ?_
    refine gd_if hf (fun hz hf => ?_)
    refine p_RX5_317_0 hz C K dX5_image_52 hf (fun V_6 hf => ?_)
    refine r_aload_n C dX5_image_55 0 rfl rfl ?_
    refine r_aload_n C dX5_image_56 0 rfl rfl ?_
    refine g_RX5_131_0 C K dX5_image_57 ?_
    refine p_RX5_320_0 C K dX5_image_60 hf (fun V_7 hf => ?_)
    refine r_aload_n C dX5_image_63 0 rfl rfl ?_
    refine r_aload_n C dX5_image_64 0 rfl rfl ?_
    refine g_RX5_137_0 C K dX5_image_65 ?_
    refine p_RX5_323_0 C K dX5_image_68 hf (fun V_8 hf => ?_)
    refine r_iconst C dX5_image_71 ki_0 ?_
    refine r_istore_n C dX5_image_72 rfl (Nat.le_of_ble_eq_true rfl) (lv2 := [(1, .int (0 : Int32)), (0, .ref (A 0))]) rfl ?_
    exact r_sub [1, 0] rfl (w_X5_image_73 C K hret 20000 V_8 L (0 : Int32) hf)
  · refine r_bipush C dX5_image_7 kb_m103 ?_
    exact ri_OW hret hf dX5_image_9 rfl
theorem t_X5_image (l : Launch) {E : EvT} {A : Nat → Nat} {V : Nat → Nat → Int32} {L : Nat → Int64} {r0 : Int32} {V0 : Nat → Nat → Int32} {L0 : Nat → Int64} (hq : f_X5_image V L = some (r0, V0, L0)) : KI l yX5_image (.code yX5_image cX5_image 2 (some .int) :: wA) rm_X5_image E (mw E A V L) (mw E A V0 L0) [.ref (A 0)] r0 := by
  refine ent_I (own := RX5) (ty := .int) (lv0 := [(0, .ref (A 0))]) (by decide) rfl rfl (Nat.le_of_ble_eq_true rfl) rfl (mw_fst _ _ _ _ _ _) ?_
  intro X Z Q hl C K hret
  exact w_X5_image_0 C K hret V L  hq
set_option maxRecDepth 100000 in
theorem w_X5_restore_122 {X : XT} {E : EvT} {Z : Nat → Prop} {Q : State → Prop} {A : Nat → Nat} (C : Cx X (.code yX5_restore cX5_restore 2 (some .int)) cX5_restore 2 RX5 rm_X5_restore.frames rm_X5_restore.locals) (K : Ck X E Z) {r0 : Int32} {V0 : Nat → Nat → Int32} {L0 : Nat → Int64} (hret : RI X 2 cX5_restore (IF X E Z (mw E A)) Q .int r0 (V0, L0)) : ∀ (n : Nat) (V : Nat → Nat → Int32) (L : Nat → Int64) (x1 : Int32), f_X5_restore_122 n V L x1 = some (r0, V0, L0) → Wm X 2 (IF X E Z (mw E A)) Q 122 [(0, .ref (A 0)), (1, .int x1)] [] (V, L) := by
  intro n
  induction n with
  | zero =>
    intro V L x1 hf
    exact none_e hf
  | succ n ih =>
    intro V L x1 hf
    rw [f_X5_restore_122] at hf
    refine r_iload_n C dX5_restore_122 1 rfl rfl ?_
    refine r_bipush C dX5_restore_123 kb_6 ?_
    refine r_icmp_ge C (tgt := 158) dX5_restore_125 rfl hf (fun hf => ?_) (fun hf => ?_)
    · refine r_aload_n C dX5_restore_158 0 rfl rfl ?_
      refine g_RX5_131_0 C K dX5_restore_159 ?_
      exact ri_OW hret hf dX5_restore_162 rfl
    · refine r_aload_n C dX5_restore_128 0 rfl rfl ?_
      refine g_RX5_16_0 C K dX5_restore_129 ?_
      refine r_iload_n C dX5_restore_132 1 rfl rfl ?_
      refine r_aload_n C dX5_restore_133 0 rfl rfl ?_
      refine g_RX5_71_0 C K dX5_restore_134 ?_
      refine r_iload_n C dX5_restore_137 1 rfl rfl ?_
      refine s_iald C K (mw_a47 E A _ _) dX5_restore_138 hf (fun hf => ?_)
      refine s_iast C K (mw_a11 E A _ _) (fun z => mw_s11 E A _ _ _) dX5_restore_139 hf (fun V_1 hf => ?_)
      refine r_aload_n C dX5_restore_140 0 rfl rfl ?_
      refine g_RX5_19_0 C K dX5_restore_141 ?_
      refine r_iload_n C dX5_restore_144 1 rfl rfl ?_
      refine r_aload_n C dX5_restore_145 0 rfl rfl ?_
      refine g_RX5_74_0 C K dX5_restore_146 ?_
      refine r_iload_n C dX5_restore_149 1 rfl rfl ?_
      refine s_iald C K (mw_a48 E A _ _) dX5_restore_150 hf (fun hf => ?_)
      refine s_iast C K (mw_a12 E A _ _) (fun z => mw_s12 E A _ _ _) dX5_restore_151 hf (fun V_2 hf => ?_)
      refine r_iinc C dX5_restore_152 1 rfl (kn_1 _) (Nat.le_of_ble_eq_true rfl) (lv2 := [(1, .int (x1 + 1)), (0, .ref (A 0))]) rfl ?_
      refine r_goto C (tgt := 122) dX5_restore_155 rfl ?_
      exact r_sub [1, 0] rfl (ih V_2 L (x1 + 1) hf)
set_option maxRecDepth 100000 in
theorem w_X5_restore_97 {X : XT} {E : EvT} {Z : Nat → Prop} {Q : State → Prop} {A : Nat → Nat} (C : Cx X (.code yX5_restore cX5_restore 2 (some .int)) cX5_restore 2 RX5 rm_X5_restore.frames rm_X5_restore.locals) (K : Ck X E Z) {r0 : Int32} {V0 : Nat → Nat → Int32} {L0 : Nat → Int64} (hret : RI X 2 cX5_restore (IF X E Z (mw E A)) Q .int r0 (V0, L0)) : ∀ (n : Nat) (V : Nat → Nat → Int32) (L : Nat → Int64) (x1 : Int32), f_X5_restore_97 n V L x1 = some (r0, V0, L0) → Wm X 2 (IF X E Z (mw E A)) Q 97 [(0, .ref (A 0)), (1, .int x1)] [] (V, L) := by
  intro n
  induction n with
  | zero =>
    intro V L x1 hf
    exact none_e hf
  | succ n ih =>
    intro V L x1 hf
    rw [f_X5_restore_97] at hf
    refine r_iload_n C dX5_restore_97 1 rfl rfl ?_
    refine r_iconst C dX5_restore_98 ki_3 ?_
    refine r_icmp_ge C (tgt := 120) dX5_restore_99 rfl hf (fun hf => ?_) (fun hf => ?_)
    · refine r_iconst C dX5_restore_120 ki_0 ?_
      refine r_istore_n C dX5_restore_121 rfl (Nat.le_of_ble_eq_true rfl) (lv2 := [(1, .int (0 : Int32)), (0, .ref (A 0))]) rfl ?_
      exact r_sub [1, 0] rfl (w_X5_restore_122 C K hret 20000 V L (0 : Int32) hf)
    · refine r_aload_n C dX5_restore_102 0 rfl rfl ?_
      refine g_RX5_7_0 C K dX5_restore_103 ?_
      refine r_iload_n C dX5_restore_106 1 rfl rfl ?_
      refine r_aload_n C dX5_restore_107 0 rfl rfl ?_
      refine g_RX5_68_0 C K dX5_restore_108 ?_
      refine r_iload_n C dX5_restore_111 1 rfl rfl ?_
      refine s_iald C K (mw_a46 E A _ _) dX5_restore_112 hf (fun hf => ?_)
      refine s_iast C K (mw_a3 E A _ _) (fun z => mw_s3 E A _ _ _) dX5_restore_113 hf (fun V_1 hf => ?_)
      refine r_iinc C dX5_restore_114 1 rfl (kn_1 _) (Nat.le_of_ble_eq_true rfl) (lv2 := [(1, .int (x1 + 1)), (0, .ref (A 0))]) rfl ?_
      refine r_goto C (tgt := 97) dX5_restore_117 rfl ?_
      exact r_sub [1, 0] rfl (ih V_1 L (x1 + 1) hf)
set_option maxRecDepth 100000 in
theorem w_X5_restore_71 {X : XT} {E : EvT} {Z : Nat → Prop} {Q : State → Prop} {A : Nat → Nat} (C : Cx X (.code yX5_restore cX5_restore 2 (some .int)) cX5_restore 2 RX5 rm_X5_restore.frames rm_X5_restore.locals) (K : Ck X E Z) {r0 : Int32} {V0 : Nat → Nat → Int32} {L0 : Nat → Int64} (hret : RI X 2 cX5_restore (IF X E Z (mw E A)) Q .int r0 (V0, L0)) : ∀ (n : Nat) (V : Nat → Nat → Int32) (L : Nat → Int64) (x1 : Int32), f_X5_restore_71 n V L x1 = some (r0, V0, L0) → Wm X 2 (IF X E Z (mw E A)) Q 71 [(0, .ref (A 0)), (1, .int x1)] [] (V, L) := by
  intro n
  induction n with
  | zero =>
    intro V L x1 hf
    exact none_e hf
  | succ n ih =>
    intro V L x1 hf
    rw [f_X5_restore_71] at hf
    refine r_iload_n C dX5_restore_71 1 rfl rfl ?_
    refine r_bipush C dX5_restore_72 kb_8 ?_
    refine r_icmp_ge C (tgt := 95) dX5_restore_74 rfl hf (fun hf => ?_) (fun hf => ?_)
    · refine r_iconst C dX5_restore_95 ki_0 ?_
      refine r_istore_n C dX5_restore_96 rfl (Nat.le_of_ble_eq_true rfl) (lv2 := [(1, .int (0 : Int32)), (0, .ref (A 0))]) rfl ?_
      exact r_sub [1, 0] rfl (w_X5_restore_97 C K hret 20000 V L (0 : Int32) hf)
    · refine r_aload_n C dX5_restore_77 0 rfl rfl ?_
      refine g_RX5_13_0 C K dX5_restore_78 ?_
      refine r_iload_n C dX5_restore_81 1 rfl rfl ?_
      refine r_aload_n C dX5_restore_82 0 rfl rfl ?_
      refine g_RX5_65_0 C K dX5_restore_83 ?_
      refine r_iload_n C dX5_restore_86 1 rfl rfl ?_
      refine s_iald C K (mw_a45 E A _ _) dX5_restore_87 hf (fun hf => ?_)
      refine s_iast C K (mw_a4 E A _ _) (fun z => mw_s4 E A _ _ _) dX5_restore_88 hf (fun V_1 hf => ?_)
      refine r_iinc C dX5_restore_89 1 rfl (kn_1 _) (Nat.le_of_ble_eq_true rfl) (lv2 := [(1, .int (x1 + 1)), (0, .ref (A 0))]) rfl ?_
      refine r_goto C (tgt := 71) dX5_restore_92 rfl ?_
      exact r_sub [1, 0] rfl (ih V_1 L (x1 + 1) hf)
set_option maxRecDepth 100000 in
theorem w_X5_restore_0 {X : XT} {E : EvT} {Z : Nat → Prop} {Q : State → Prop} {A : Nat → Nat} (C : Cx X (.code yX5_restore cX5_restore 2 (some .int)) cX5_restore 2 RX5 rm_X5_restore.frames rm_X5_restore.locals) (K : Ck X E Z) {r0 : Int32} {V0 : Nat → Nat → Int32} {L0 : Nat → Int64} (hret : RI X 2 cX5_restore (IF X E Z (mw E A)) Q .int r0 (V0, L0)) : ∀ (V : Nat → Nat → Int32) (L : Nat → Int64), f_X5_restore V L = some (r0, V0, L0) → Wm X 2 (IF X E Z (mw E A)) Q 0 [(0, .ref (A 0))] [] (V, L) := by
  intro V L hf
  rw [f_X5_restore] at hf
  refine r_aload_n C dX5_restore_0 0 rfl rfl ?_
  refine g_RX5_302_0 C K dX5_restore_1 ?_
  refine r_if_eq C (tgt := 18) dX5_restore_4 rfl hf (fun hf => ?_) (fun hf => ?_)
  · refine r_bipush C dX5_restore_18 kb_m103 ?_
    exact ri_OW hret hf dX5_restore_20 rfl
  · refine r_aload_n C dX5_restore_7 0 rfl rfl ?_
    refine g_RX5_305_0 C K dX5_restore_8 ?_
    refine r_aload_n C dX5_restore_11 0 rfl rfl ?_
    refine g_RX5_134_0 C K dX5_restore_12 ?_
    refine r_icmp_eq C (tgt := 21) dX5_restore_15 rfl hf (fun hf => ?_) (fun hf => ?_)
    · refine r_aload_n C dX5_restore_21 0 rfl rfl ?_
      refine r_aload_n C dX5_restore_22 0 rfl rfl ?_
      refine g_RX5_308_0 C K dX5_restore_23 ?_
      refine p_RX5_119_0 C K dX5_restore_26 hf (fun V_1 hf => ?_)
      refine r_aload_n C dX5_restore_29 0 rfl rfl ?_
      refine r_aload_n C dX5_restore_30 0 rfl rfl ?_
      refine g_RX5_311_0 C K dX5_restore_31 ?_
      refine p_RX5_122_0 C K dX5_restore_34 hf (fun V_2 hf => ?_)
      refine r_aload_n C dX5_restore_37 0 rfl rfl ?_
      refine r_aload_n C dX5_restore_38 0 rfl rfl ?_
      refine g_RX5_314_0 C K dX5_restore_39 ?_
      refine p_RX5_125_0 C K dX5_restore_42 hf (fun V_3 hf => ?_)
      refine r_aload_n C dX5_restore_45 0 rfl rfl ?_
      refine r_aload_n C dX5_restore_46 0 rfl rfl ?_
      refine g_RX5_317_0 C K dX5_restore_47 ?_
      refine gd_if hf (fun hz hf => ?_)
      refine p_RX5_128_0 hz C K dX5_restore_50 hf (fun V_4 hf => ?_)
      refine r_aload_n C dX5_restore_53 0 rfl rfl ?_
      refine r_aload_n C dX5_restore_54 0 rfl rfl ?_
      refine g_RX5_320_0 C K dX5_restore_55 ?_
      refine p_RX5_131_0 C K dX5_restore_58 hf (fun V_5 hf => ?_)
      refine r_aload_n C dX5_restore_61 0 rfl rfl ?_
      refine r_aload_n C dX5_restore_62 0 rfl rfl ?_
      refine g_RX5_323_0 C K dX5_restore_63 ?_
      refine p_RX5_137_0 C K dX5_restore_66 hf (fun V_6 hf => ?_)
      refine r_iconst C dX5_restore_69 ki_0 ?_
      refine r_istore_n C dX5_restore_70 rfl (Nat.le_of_ble_eq_true rfl) (lv2 := [(1, .int (0 : Int32)), (0, .ref (A 0))]) rfl ?_
      exact r_sub [1, 0] rfl (w_X5_restore_71 C K hret 20000 V_6 L (0 : Int32) hf)
    · refine r_bipush C dX5_restore_18 kb_m103 ?_
      exact ri_OW hret hf dX5_restore_20 rfl
theorem t_X5_restore (l : Launch) {E : EvT} {A : Nat → Nat} {V : Nat → Nat → Int32} {L : Nat → Int64} {r0 : Int32} {V0 : Nat → Nat → Int32} {L0 : Nat → Int64} (hq : f_X5_restore V L = some (r0, V0, L0)) : KI l yX5_restore (.code yX5_restore cX5_restore 2 (some .int) :: wA) rm_X5_restore E (mw E A V L) (mw E A V0 L0) [.ref (A 0)] r0 := by
  refine ent_I (own := RX5) (ty := .int) (lv0 := [(0, .ref (A 0))]) (by decide) rfl rfl (Nat.le_of_ble_eq_true rfl) rfl (mw_fst _ _ _ _ _ _) ?_
  intro X Z Q hl C K hret
  exact w_X5_restore_0 C K hret V L  hq
set_option maxRecDepth 100000 in
theorem w_X5_howMany_0 {X : XT} {E : EvT} {Z : Nat → Prop} {Q : State → Prop} {A : Nat → Nat} (C : Cx X (.code yX5_howMany cX5_howMany 2 (some .int)) cX5_howMany 2 RX5 rm_X5_howMany.frames rm_X5_howMany.locals) (K : Ck X E Z) {r0 : Int32} {V : Nat → Nat → Int32} {L : Nat → Int64} (hret : RI X 2 cX5_howMany (IF X E Z (mw E A)) Q .int r0 (V, L)) : ∀ (x1 : Int32), f_X5_howMany V L x1 = some r0 → Wm X 2 (IF X E Z (mw E A)) Q 0 [(0, .ref (A 0)), (1, .int x1)] [] (V, L) := by
  intro x1 hf
  rw [f_X5_howMany] at hf
  refine r_iload_n C dX5_howMany_0 1 rfl rfl ?_
  refine br_if hf (fun hq hf => ?_) (fun h0 hf => ?_)
  · refine r_tblIn C (off := 59) (tgt := 60) dX5_howMany_1 (by rw [hq]; decide) (by rw [hq]; decide) (by rw [hq]; rfl) rfl ?_
    refine r_aload_n C dX5_howMany_60 0 rfl rfl ?_
    refine g_RX5_116_0 C K dX5_howMany_61 ?_
    exact ri_OR hret hf dX5_howMany_64 rfl
  refine br_if hf (fun hq hf => ?_) (fun h1 hf => ?_)
  · refine r_tblIn C (off := 64) (tgt := 65) dX5_howMany_1 (by rw [hq]; decide) (by rw [hq]; decide) (by rw [hq]; rfl) rfl ?_
    refine r_aload_n C dX5_howMany_65 0 rfl rfl ?_
    refine g_RX5_119_0 C K dX5_howMany_66 ?_
    refine bd1_e hf (fun r_1 hq hf => ?_)
    refine r_callP C cas_RX5_146 ⟨rfl, rfl, Nat.le_of_ble_eq_true rfl, Nat.le_of_ble_eq_true rfl⟩ (t_X5_size _ (V 0 5) hq) rfl (rest := []) rfl (Nat.le_of_ble_eq_true rfl) dX5_howMany_69 ?_
    exact ri_OR hret hf dX5_howMany_72 rfl
  refine br_if hf (fun hq hf => ?_) (fun h2 hf => ?_)
  · refine r_tblIn C (off := 72) (tgt := 73) dX5_howMany_1 (by rw [hq]; decide) (by rw [hq]; decide) (by rw [hq]; rfl) rfl ?_
    refine r_aload_n C dX5_howMany_73 0 rfl rfl ?_
    refine g_RX5_113_0 C K dX5_howMany_74 ?_
    exact ri_OR hret hf dX5_howMany_77 rfl
  refine br_if hf (fun hq hf => ?_) (fun h3 hf => ?_)
  · refine r_tblIn C (off := 77) (tgt := 78) dX5_howMany_1 (by rw [hq]; decide) (by rw [hq]; decide) (by rw [hq]; rfl) rfl ?_
    refine r_aload_n C dX5_howMany_78 0 rfl rfl ?_
    refine g_RX5_122_0 C K dX5_howMany_79 ?_
    refine bd1_e hf (fun r_2 hq hf => ?_)
    refine r_callP C cas_RX5_146 ⟨rfl, rfl, Nat.le_of_ble_eq_true rfl, Nat.le_of_ble_eq_true rfl⟩ (t_X5_size _ (V 0 6) hq) rfl (rest := []) rfl (Nat.le_of_ble_eq_true rfl) dX5_howMany_82 ?_
    exact ri_OR hret hf dX5_howMany_85 rfl
  refine br_if hf (fun hq hf => ?_) (fun h4 hf => ?_)
  · refine r_tblIn C (off := 85) (tgt := 86) dX5_howMany_1 (by rw [hq]; decide) (by rw [hq]; decide) (by rw [hq]; rfl) rfl ?_
    refine r_aload_n C dX5_howMany_86 0 rfl rfl ?_
    refine g_RX5_125_0 C K dX5_howMany_87 ?_
    exact ri_OR hret hf dX5_howMany_90 rfl
  refine br_if hf (fun hq hf => ?_) (fun h5 hf => ?_)
  · refine r_tblIn C (off := 90) (tgt := 91) dX5_howMany_1 (by rw [hq]; decide) (by rw [hq]; decide) (by rw [hq]; rfl) rfl ?_
    refine r_aload_n C dX5_howMany_91 0 rfl rfl ?_
    refine g_RX5_128_0 C K dX5_howMany_92 ?_
    refine r_if_eq C (tgt := 102) dX5_howMany_95 rfl hf (fun hf => ?_) (fun hf => ?_)
    · refine r_iconst C dX5_howMany_102 ki_0 ?_
      exact ri_OR hret hf dX5_howMany_103 rfl
    · refine r_iconst C dX5_howMany_98 ki_1 ?_
      refine r_goto C (tgt := 103) dX5_howMany_99 rfl ?_
      exact ri_OR hret hf dX5_howMany_103 rfl
  refine br_if hf (fun hq hf => ?_) (fun h6 hf => ?_)
  · refine r_tblIn C (off := 103) (tgt := 104) dX5_howMany_1 (by rw [hq]; decide) (by rw [hq]; decide) (by rw [hq]; rfl) rfl ?_
    refine r_aload_n C dX5_howMany_104 0 rfl rfl ?_
    refine g_RX5_131_0 C K dX5_howMany_105 ?_
    exact ri_OR hret hf dX5_howMany_108 rfl
  refine br_if hf (fun hq hf => ?_) (fun h7 hf => ?_)
  · refine r_tblIn C (off := 108) (tgt := 109) dX5_howMany_1 (by rw [hq]; decide) (by rw [hq]; decide) (by rw [hq]; rfl) rfl ?_
    refine r_aload_n C dX5_howMany_109 0 rfl rfl ?_
    refine bd1_e hf (fun r_3 hq hf => ?_)
    refine f_callI C K cal_RX5_149 ⟨rfl, rfl, Nat.le_of_ble_eq_true rfl, Nat.le_of_ble_eq_true rfl⟩ (t_X5_beatsIn _ hq) (mw_o0 E A _ _) rfl (mw_fst _ _ _ _ _ _) rfl (rest := []) rfl (Nat.le_of_ble_eq_true rfl) dX5_howMany_110 ?_
    exact ri_OR hret hf dX5_howMany_113 rfl
  refine br_if hf (fun hq hf => ?_) (fun h8 hf => ?_)
  · refine r_tblIn C (off := 113) (tgt := 114) dX5_howMany_1 (by rw [hq]; decide) (by rw [hq]; decide) (by rw [hq]; rfl) rfl ?_
    refine r_aload_n C dX5_howMany_114 0 rfl rfl ?_
    refine g_RX5_137_0 C K dX5_howMany_115 ?_
    exact ri_OR hret hf dX5_howMany_118 rfl
  refine br_if hf (fun hq hf => ?_) (fun h9 hf => ?_)
  · refine r_tblIn C (off := 118) (tgt := 119) dX5_howMany_1 (by rw [hq]; decide) (by rw [hq]; decide) (by rw [hq]; rfl) rfl ?_
    refine r_aload_n C dX5_howMany_119 0 rfl rfl ?_
    refine g_RX5_81_0 C K dX5_howMany_120 ?_
    exact ri_OR hret hf dX5_howMany_123 rfl
  refine br_if hf (fun hq hf => ?_) (fun h10 hf => ?_)
  · refine r_tblIn C (off := 123) (tgt := 124) dX5_howMany_1 (by rw [hq]; decide) (by rw [hq]; decide) (by rw [hq]; rfl) rfl ?_
    refine r_aload_n C dX5_howMany_124 0 rfl rfl ?_
    refine g_RX5_134_0 C K dX5_howMany_125 ?_
    exact ri_OR hret hf dX5_howMany_128 rfl
  refine r_tblOut C (tgt := 129) dX5_howMany_1 (by have q0 := lv_neT (a := 0) h0 rfl; have q1 := lv_neT (a := 1) h1 rfl; have q2 := lv_neT (a := 2) h2 rfl; have q3 := lv_neT (a := 3) h3 rfl; have q4 := lv_neT (a := 4) h4 rfl; have q5 := lv_neT (a := 5) h5 rfl; have q6 := lv_neT (a := 6) h6 rfl; have q7 := lv_neT (a := 7) h7 rfl; have q8 := lv_neT (a := 8) h8 rfl; have q9 := lv_neT (a := 9) h9 rfl; have q10 := lv_neT (a := 10) h10 rfl; omega) rfl ?_
  refine r_bipush C dX5_howMany_129 kb_m102 ?_
  exact ri_OR hret hf dX5_howMany_131 rfl
theorem t_X5_howMany (l : Launch) {E : EvT} {A : Nat → Nat} {V : Nat → Nat → Int32} {L : Nat → Int64} (x1 : Int32) {r0 : Int32} (hq : f_X5_howMany V L x1 = some r0) : KI l yX5_howMany (.code yX5_howMany cX5_howMany 2 (some .int) :: wA) rm_X5_howMany E (mw E A V L) (mw E A V L) [.ref (A 0), .int x1] r0 := by
  refine ent_I (own := RX5) (ty := .int) (lv0 := [(0, .ref (A 0)), (1, .int x1)]) (by decide) rfl rfl (Nat.le_of_ble_eq_true rfl) rfl (mw_fst _ _ _ _ _ _) ?_
  intro X Z Q hl C K hret
  exact w_X5_howMany_0 C K hret  x1 hq
set_option maxRecDepth 100000 in
theorem w_X5_count_0 {X : XT} {E : EvT} {Z : Nat → Prop} {Q : State → Prop} {A : Nat → Nat} (C : Cx X (.code yX5_count cX5_count 2 (some .int)) cX5_count 2 RX5 rm_X5_count.frames rm_X5_count.locals) (K : Ck X E Z) {r0 : Int32} {V : Nat → Nat → Int32} {L : Nat → Int64} (hret : RI X 2 cX5_count (IF X E Z (mw E A)) Q .int r0 (V, L)) : ∀ (x1 : Int32), f_X5_count V L x1 = some r0 → Wm X 2 (IF X E Z (mw E A)) Q 0 [(0, .ref (A 0)), (1, .int x1)] [] (V, L) := by
  intro x1 hf
  rw [f_X5_count] at hf
  refine r_aload_n C dX5_count_0 0 rfl rfl ?_
  refine r_iload_n C dX5_count_1 1 rfl rfl ?_
  refine bd1_e hf (fun r_1 hq hf => ?_)
  refine f_callI C K cal_RX5_326 ⟨rfl, rfl, Nat.le_of_ble_eq_true rfl, Nat.le_of_ble_eq_true rfl⟩ (t_X5_howMany _ x1 hq) (mw_o0 E A _ _) rfl (mw_fst _ _ _ _ _ _) rfl (rest := []) rfl (Nat.le_of_ble_eq_true rfl) dX5_count_2 ?_
  exact ri_OR hret hf dX5_count_5 rfl
theorem t_X5_count (l : Launch) {E : EvT} {A : Nat → Nat} {V : Nat → Nat → Int32} {L : Nat → Int64} (x1 : Int32) {r0 : Int32} (hq : f_X5_count V L x1 = some r0) : KI l yX5_count (.code yX5_count cX5_count 2 (some .int) :: wA) rm_X5_count E (mw E A V L) (mw E A V L) [.ref (A 0), .int x1] r0 := by
  refine ent_I (own := RX5) (ty := .int) (lv0 := [(0, .ref (A 0)), (1, .int x1)]) (by decide) rfl rfl (Nat.le_of_ble_eq_true rfl) rfl (mw_fst _ _ _ _ _ _) ?_
  intro X Z Q hl C K hret
  exact w_X5_count_0 C K hret  x1 hq
set_option maxRecDepth 100000 in
theorem w_X5_mix_0 {X : XT} {E : EvT} {Z : Nat → Prop} {Q : State → Prop} {A : Nat → Nat} (C : Cx X (.code yX5_mix cX5_mix 3 none) cX5_mix 3 RX5 rm_X5_mix.frames rm_X5_mix.locals) (K : Ck X E Z) {V0 : Nat → Nat → Int32} {L0 : Nat → Int64} (hret : RV X 3 cX5_mix (IF X E Z (mw E A)) Q (V0, L0)) : ∀ (V : Nat → Nat → Int32) (L : Nat → Int64) (y1 : Int64), f_X5_mix V L y1 = some (V0, L0) → Wm X 3 (IF X E Z (mw E A)) Q 0 [(0, .ref (A 0)), (1, .long y1)] [] (V, L) := by
  intro V L y1 hf
  rw [f_X5_mix] at hf
  refine r_aload_n C dX5_mix_0 0 rfl rfl ?_
  refine r_ldc2 C q_kl_RX5_329 dX5_mix_1 ?_
  refine r_aload_n C dX5_mix_4 0 rfl rfl ?_
  refine g_RX5_331_0 C K dX5_mix_5 ?_
  refine r_lmul C dX5_mix_8 ?_
  refine r_lload_n C dX5_mix_9 1 rfl rfl ?_
  refine r_ladd C dX5_mix_10 ?_
  refine p_RX5_331_0 C K dX5_mix_11 hf (fun L_1 hf => ?_)
  exact rv_OV hret hf dX5_mix_14
theorem t_X5_mix (l : Launch) {E : EvT} {A : Nat → Nat} {V : Nat → Nat → Int32} {L : Nat → Int64} (y1 : Int64) {V0 : Nat → Nat → Int32} {L0 : Nat → Int64} (hq : f_X5_mix V L y1 = some (V0, L0)) : KV l yX5_mix (.code yX5_mix cX5_mix 3 none :: wA) rm_X5_mix E (mw E A V L) (mw E A V0 L0) [.ref (A 0), .long y1] := by
  refine ent_V (own := RX5) (lv0 := [(0, .ref (A 0)), (1, .long y1)]) (by decide) rfl rfl (Nat.le_of_ble_eq_true rfl) rfl (mw_fst _ _ _ _ _ _) ?_
  intro X Z Q hl C K hret
  exact w_X5_mix_0 C K hret V L y1 hq
set_option maxRecDepth 100000 in
theorem w_X5_mixRing_91 {X : XT} {E : EvT} {Z : Nat → Prop} {Q : State → Prop} {A : Nat → Nat} (C : Cx X (.code yX5_mixRing cX5_mixRing 2 none) cX5_mixRing 2 RX5 rm_X5_mixRing.frames rm_X5_mixRing.locals) (K : Ck X E Z) {V0 : Nat → Nat → Int32} {L0 : Nat → Int64} (hret : RV X 2 cX5_mixRing (IF X E Z (mw E A)) Q (V0, L0)) : ∀ (n : Nat) (V : Nat → Nat → Int32) (L : Nat → Int64) (x1 : Int32), f_X5_mixRing_91 n V L x1 = some (V0, L0) → Wm X 2 (IF X E Z (mw E A)) Q 91 [(0, .ref (A 0)), (1, .int x1)] [] (V, L) := by
  intro n
  induction n with
  | zero =>
    intro V L x1 hf
    exact none_e hf
  | succ n ih =>
    intro V L x1 hf
    rw [f_X5_mixRing_91] at hf
    refine r_iload_n C dX5_mixRing_91 1 rfl rfl ?_
    refine r_aload_n C dX5_mixRing_92 0 rfl rfl ?_
    refine g_RX5_116_0 C K dX5_mixRing_93 ?_
    refine r_icmp_ge C (tgt := 138) dX5_mixRing_96 rfl hf (fun hf => ?_) (fun hf => ?_)
    · exact rv_OV hret hf dX5_mixRing_138
    · refine r_aload_n C dX5_mixRing_99 0 rfl rfl ?_
      refine g_RX5_119_0 C K dX5_mixRing_100 ?_
      refine r_iload_n C dX5_mixRing_103 1 rfl rfl ?_
      refine r_callP C cas_RX5_140 ⟨rfl, rfl, Nat.le_of_ble_eq_true rfl, Nat.le_of_ble_eq_true rfl⟩ (t_X5_isIn _ (V 0 5) x1) rfl (rest := []) rfl (Nat.le_of_ble_eq_true rfl) dX5_mixRing_104 ?_
      refine r_if_eq C (tgt := 132) dX5_mixRing_107 rfl hf (fun hf => ?_) (fun hf => ?_)
      · refine r_iinc C dX5_mixRing_132 1 rfl (kn_1 _) (Nat.le_of_ble_eq_true rfl) (lv2 := [(1, .int (x1 + 1)), (0, .ref (A 0))]) rfl ?_
        refine r_goto C (tgt := 91) dX5_mixRing_135 rfl ?_
        exact r_sub [1, 0] rfl (ih V L (x1 + 1) hf)
      · refine r_aload_n C dX5_mixRing_110 0 rfl rfl ?_
        refine r_aload_n C dX5_mixRing_111 0 rfl rfl ?_
        refine r_iload_n C dX5_mixRing_112 1 rfl rfl ?_
        refine r_iconst C dX5_mixRing_113 ki_0 ?_
        refine bd1_e hf (fun r_1 hq hf => ?_)
        refine f_callI C K cal_RX5_271 ⟨rfl, rfl, Nat.le_of_ble_eq_true rfl, Nat.le_of_ble_eq_true rfl⟩ (t_X5_likelyNow _ x1 (0 : Int32) hq) (mw_o0 E A _ _) rfl (mw_fst _ _ _ _ _ _) rfl (rest := [.ref (A 0)]) rfl (Nat.le_of_ble_eq_true rfl) dX5_mixRing_114 ?_
        refine r_i2l C dX5_mixRing_117 ?_
        refine bd2_e hf (fun V_2 L_3 hq hf => ?_)
        refine f_callV C K cal_RX5_334 ⟨rfl, rfl, Nat.le_of_ble_eq_true rfl, Nat.le_of_ble_eq_true rfl⟩ (t_X5_mix _ r_1.toInt64 hq) (mw_o0 E A _ _) rfl (mw_fst _ _ _ _ _ _) rfl (rest := []) rfl (Nat.le_of_ble_eq_true rfl) dX5_mixRing_118 ?_
        refine r_aload_n C dX5_mixRing_121 0 rfl rfl ?_
        refine r_aload_n C dX5_mixRing_122 0 rfl rfl ?_
        refine r_iload_n C dX5_mixRing_123 1 rfl rfl ?_
        refine r_iconst C dX5_mixRing_124 ki_1 ?_
        refine bd1_e hf (fun r_4 hq hf => ?_)
        refine f_callI C K cal_RX5_271 ⟨rfl, rfl, Nat.le_of_ble_eq_true rfl, Nat.le_of_ble_eq_true rfl⟩ (t_X5_likelyNow _ x1 (1 : Int32) hq) (mw_o0 E A _ _) rfl (mw_fst _ _ _ _ _ _) rfl (rest := [.ref (A 0)]) rfl (Nat.le_of_ble_eq_true rfl) dX5_mixRing_125 ?_
        refine r_i2l C dX5_mixRing_128 ?_
        refine bd2_e hf (fun V_5 L_6 hq hf => ?_)
        refine f_callV C K cal_RX5_334 ⟨rfl, rfl, Nat.le_of_ble_eq_true rfl, Nat.le_of_ble_eq_true rfl⟩ (t_X5_mix _ r_4.toInt64 hq) (mw_o0 E A _ _) rfl (mw_fst _ _ _ _ _ _) rfl (rest := []) rfl (Nat.le_of_ble_eq_true rfl) dX5_mixRing_129 ?_
        refine r_iinc C dX5_mixRing_132 1 rfl (kn_1 _) (Nat.le_of_ble_eq_true rfl) (lv2 := [(1, .int (x1 + 1)), (0, .ref (A 0))]) rfl ?_
        refine r_goto C (tgt := 91) dX5_mixRing_135 rfl ?_
        exact r_sub [1, 0] rfl (ih V_5 L_6 (x1 + 1) hf)
set_option maxRecDepth 100000 in
theorem w_X5_mixRing_85 {X : XT} {E : EvT} {Z : Nat → Prop} {Q : State → Prop} {A : Nat → Nat} (C : Cx X (.code yX5_mixRing cX5_mixRing 2 none) cX5_mixRing 2 RX5 rm_X5_mixRing.frames rm_X5_mixRing.locals) (K : Ck X E Z) {V0 : Nat → Nat → Int32} {L0 : Nat → Int64} (hret : RV X 2 cX5_mixRing (IF X E Z (mw E A)) Q (V0, L0)) : ∀ (V : Nat → Nat → Int32) (L : Nat → Int64), f_X5_mixRing_85 V L = some (V0, L0) → Wm X 2 (IF X E Z (mw E A)) Q 85 [(0, .ref (A 0))] [] (V, L) := by
  intro V L hf
  rw [f_X5_mixRing_85] at hf
  refine r_aload_n C dX5_mixRing_85 0 rfl rfl ?_
  refine bd2_e hf (fun V_1 L_2 hq hf => ?_)
  refine f_callV C K cal_RX5_268 ⟨rfl, rfl, Nat.le_of_ble_eq_true rfl, Nat.le_of_ble_eq_true rfl⟩ (t_X5_layLikely _ hq) (mw_o0 E A _ _) rfl (mw_fst _ _ _ _ _ _) rfl (rest := []) rfl (Nat.le_of_ble_eq_true rfl) dX5_mixRing_86 ?_
  refine r_iconst C dX5_mixRing_89 ki_0 ?_
  refine r_istore_n C dX5_mixRing_90 rfl (Nat.le_of_ble_eq_true rfl) (lv2 := [(1, .int (0 : Int32)), (0, .ref (A 0))]) rfl ?_
  exact r_sub [1, 0] rfl (w_X5_mixRing_91 C K hret 20000 V_1 L_2 (0 : Int32) hf)
set_option maxRecDepth 100000 in
theorem w_X5_mixRing_0 {X : XT} {E : EvT} {Z : Nat → Prop} {Q : State → Prop} {A : Nat → Nat} (C : Cx X (.code yX5_mixRing cX5_mixRing 2 none) cX5_mixRing 2 RX5 rm_X5_mixRing.frames rm_X5_mixRing.locals) (K : Ck X E Z) {V0 : Nat → Nat → Int32} {L0 : Nat → Int64} (hret : RV X 2 cX5_mixRing (IF X E Z (mw E A)) Q (V0, L0)) : ∀ (V : Nat → Nat → Int32) (L : Nat → Int64), f_X5_mixRing V L = some (V0, L0) → Wm X 2 (IF X E Z (mw E A)) Q 0 [(0, .ref (A 0))] [] (V, L) := by
  intro V L hf
  rw [f_X5_mixRing] at hf
  refine r_aload_n C dX5_mixRing_0 0 rfl rfl ?_
  refine r_aload_n C dX5_mixRing_1 0 rfl rfl ?_
  refine r_iconst C dX5_mixRing_2 ki_3 ?_
  refine bd3_e hf (fun r_1 V_2 L_3 hq hf => ?_)
  refine f_callI C K cal_RX5_191 ⟨rfl, rfl, Nat.le_of_ble_eq_true rfl, Nat.le_of_ble_eq_true rfl⟩ (t_X5_lastBy _ (3 : Int32) hq) (mw_o0 E A _ _) rfl (mw_fst _ _ _ _ _ _) rfl (rest := [.ref (A 0)]) rfl (Nat.le_of_ble_eq_true rfl) dX5_mixRing_3 ?_
  refine r_i2l C dX5_mixRing_6 ?_
  refine bd2_e hf (fun V_4 L_5 hq hf => ?_)
  refine f_callV C K cal_RX5_334 ⟨rfl, rfl, Nat.le_of_ble_eq_true rfl, Nat.le_of_ble_eq_true rfl⟩ (t_X5_mix _ r_1.toInt64 hq) (mw_o0 E A _ _) rfl (mw_fst _ _ _ _ _ _) rfl (rest := []) rfl (Nat.le_of_ble_eq_true rfl) dX5_mixRing_7 ?_
  refine r_aload_n C dX5_mixRing_10 0 rfl rfl ?_
  refine r_aload_n C dX5_mixRing_11 0 rfl rfl ?_
  refine r_iconst C dX5_mixRing_12 ki_0 ?_
  refine r_iconst C dX5_mixRing_13 ki_5 ?_
  refine bd3_e hf (fun r_6 V_7 L_8 hq hf => ?_)
  refine f_callI C K cal_RX5_222 ⟨rfl, rfl, Nat.le_of_ble_eq_true rfl, Nat.le_of_ble_eq_true rfl⟩ (t_X5_standNow _ (0 : Int32) (5 : Int32) hq) (mw_o0 E A _ _) rfl (mw_fst _ _ _ _ _ _) rfl (rest := [.ref (A 0)]) rfl (Nat.le_of_ble_eq_true rfl) dX5_mixRing_14 ?_
  refine r_i2l C dX5_mixRing_17 ?_
  refine bd2_e hf (fun V_9 L_10 hq hf => ?_)
  refine f_callV C K cal_RX5_334 ⟨rfl, rfl, Nat.le_of_ble_eq_true rfl, Nat.le_of_ble_eq_true rfl⟩ (t_X5_mix _ r_6.toInt64 hq) (mw_o0 E A _ _) rfl (mw_fst _ _ _ _ _ _) rfl (rest := []) rfl (Nat.le_of_ble_eq_true rfl) dX5_mixRing_18 ?_
  refine r_aload_n C dX5_mixRing_21 0 rfl rfl ?_
  refine r_aload_n C dX5_mixRing_22 0 rfl rfl ?_
  refine bd3_e hf (fun r_11 V_12 L_13 hq hf => ?_)
  refine f_callI C K cal_RX5_274 ⟨rfl, rfl, Nat.le_of_ble_eq_true rfl, Nat.le_of_ble_eq_true rfl⟩ (t_X5_lengthsNow _ hq) (mw_o0 E A _ _) rfl (mw_fst _ _ _ _ _ _) rfl (rest := [.ref (A 0)]) rfl (Nat.le_of_ble_eq_true rfl) dX5_mixRing_23 ?_
  refine r_i2l C dX5_mixRing_26 ?_
  refine bd2_e hf (fun V_14 L_15 hq hf => ?_)
  refine f_callV C K cal_RX5_334 ⟨rfl, rfl, Nat.le_of_ble_eq_true rfl, Nat.le_of_ble_eq_true rfl⟩ (t_X5_mix _ r_11.toInt64 hq) (mw_o0 E A _ _) rfl (mw_fst _ _ _ _ _ _) rfl (rest := []) rfl (Nat.le_of_ble_eq_true rfl) dX5_mixRing_27 ?_
  refine r_aload_n C dX5_mixRing_30 0 rfl rfl ?_
  refine r_aload_n C dX5_mixRing_31 0 rfl rfl ?_
  refine bd3_e hf (fun r_16 V_17 L_18 hq hf => ?_)
  refine f_callI C K cal_RX5_281 ⟨rfl, rfl, Nat.le_of_ble_eq_true rfl, Nat.le_of_ble_eq_true rfl⟩ (t_X5_fromNow _ hq) (mw_o0 E A _ _) rfl (mw_fst _ _ _ _ _ _) rfl (rest := [.ref (A 0)]) rfl (Nat.le_of_ble_eq_true rfl) dX5_mixRing_32 ?_
  refine r_i2l C dX5_mixRing_35 ?_
  refine bd2_e hf (fun V_19 L_20 hq hf => ?_)
  refine f_callV C K cal_RX5_334 ⟨rfl, rfl, Nat.le_of_ble_eq_true rfl, Nat.le_of_ble_eq_true rfl⟩ (t_X5_mix _ r_16.toInt64 hq) (mw_o0 E A _ _) rfl (mw_fst _ _ _ _ _ _) rfl (rest := []) rfl (Nat.le_of_ble_eq_true rfl) dX5_mixRing_36 ?_
  refine r_aload_n C dX5_mixRing_39 0 rfl rfl ?_
  refine g_RX5_119_0 C K dX5_mixRing_40 ?_
  refine r_iconst C dX5_mixRing_43 ki_0 ?_
  refine r_callP C cas_RX5_140 ⟨rfl, rfl, Nat.le_of_ble_eq_true rfl, Nat.le_of_ble_eq_true rfl⟩ (t_X5_isIn _ (V_19 0 5) (0 : Int32)) rfl (rest := []) rfl (Nat.le_of_ble_eq_true rfl) dX5_mixRing_44 ?_
  refine r_if_eq C (tgt := 85) dX5_mixRing_47 rfl hf (fun hf => ?_) (fun hf => ?_)
  · exact r_sub [0] rfl (w_X5_mixRing_85 C K hret V_19 L_20 hf)
  · refine r_aload_n C dX5_mixRing_50 0 rfl rfl ?_
    refine g_RX5_119_0 C K dX5_mixRing_51 ?_
    refine r_iconst C dX5_mixRing_54 ki_1 ?_
    refine r_callP C cas_RX5_140 ⟨rfl, rfl, Nat.le_of_ble_eq_true rfl, Nat.le_of_ble_eq_true rfl⟩ (t_X5_isIn _ (V_19 0 5) (1 : Int32)) rfl (rest := []) rfl (Nat.le_of_ble_eq_true rfl) dX5_mixRing_55 ?_
    refine r_if_eq C (tgt := 85) dX5_mixRing_58 rfl hf (fun hf => ?_) (fun hf => ?_)
    · exact r_sub [0] rfl (w_X5_mixRing_85 C K hret V_19 L_20 hf)
    · refine r_aload_n C dX5_mixRing_61 0 rfl rfl ?_
      refine r_aload_n C dX5_mixRing_62 0 rfl rfl ?_
      refine r_iconst C dX5_mixRing_63 ki_0 ?_
      refine r_iconst C dX5_mixRing_64 ki_1 ?_
      refine r_iconst C dX5_mixRing_65 ki_0 ?_
      refine bd3_e hf (fun r_21 V_22 L_23 hq hf => ?_)
      refine f_callI C K cal_RX5_239 ⟨rfl, rfl, Nat.le_of_ble_eq_true rfl, Nat.le_of_ble_eq_true rfl⟩ (t_X5_gameNow _ (0 : Int32) (1 : Int32) (0 : Int32) hq) (mw_o0 E A _ _) rfl (mw_fst _ _ _ _ _ _) rfl (rest := [.ref (A 0)]) rfl (Nat.le_of_ble_eq_true rfl) dX5_mixRing_66 ?_
      refine r_i2l C dX5_mixRing_69 ?_
      refine bd2_e hf (fun V_24 L_25 hq hf => ?_)
      refine f_callV C K cal_RX5_334 ⟨rfl, rfl, Nat.le_of_ble_eq_true rfl, Nat.le_of_ble_eq_true rfl⟩ (t_X5_mix _ r_21.toInt64 hq) (mw_o0 E A _ _) rfl (mw_fst _ _ _ _ _ _) rfl (rest := []) rfl (Nat.le_of_ble_eq_true rfl) dX5_mixRing_70 ?_
      refine r_aload_n C dX5_mixRing_73 0 rfl rfl ?_
      refine r_aload_n C dX5_mixRing_74 0 rfl rfl ?_
      refine r_iconst C dX5_mixRing_75 ki_0 ?_
      refine r_iconst C dX5_mixRing_76 ki_1 ?_
      refine r_iconst C dX5_mixRing_77 ki_1 ?_
      refine bd3_e hf (fun r_26 V_27 L_28 hq hf => ?_)
      refine f_callI C K cal_RX5_239 ⟨rfl, rfl, Nat.le_of_ble_eq_true rfl, Nat.le_of_ble_eq_true rfl⟩ (t_X5_gameNow _ (0 : Int32) (1 : Int32) (1 : Int32) hq) (mw_o0 E A _ _) rfl (mw_fst _ _ _ _ _ _) rfl (rest := [.ref (A 0)]) rfl (Nat.le_of_ble_eq_true rfl) dX5_mixRing_78 ?_
      refine r_i2l C dX5_mixRing_81 ?_
      refine bd2_e hf (fun V_29 L_30 hq hf => ?_)
      refine f_callV C K cal_RX5_334 ⟨rfl, rfl, Nat.le_of_ble_eq_true rfl, Nat.le_of_ble_eq_true rfl⟩ (t_X5_mix _ r_26.toInt64 hq) (mw_o0 E A _ _) rfl (mw_fst _ _ _ _ _ _) rfl (rest := []) rfl (Nat.le_of_ble_eq_true rfl) dX5_mixRing_82 ?_
      exact r_sub [0] rfl (w_X5_mixRing_85 C K hret V_29 L_30 hf)
theorem t_X5_mixRing (l : Launch) {E : EvT} {A : Nat → Nat} {V : Nat → Nat → Int32} {L : Nat → Int64} {V0 : Nat → Nat → Int32} {L0 : Nat → Int64} (hq : f_X5_mixRing V L = some (V0, L0)) : KV l yX5_mixRing (.code yX5_mixRing cX5_mixRing 2 none :: wA) rm_X5_mixRing E (mw E A V L) (mw E A V0 L0) [.ref (A 0)] := by
  refine ent_V (own := RX5) (lv0 := [(0, .ref (A 0))]) (by decide) rfl rfl (Nat.le_of_ble_eq_true rfl) rfl (mw_fst _ _ _ _ _ _) ?_
  intro X Z Q hl C K hret
  exact w_X5_mixRing_0 C K hret V L  hq
set_option maxRecDepth 100000 in
theorem w_X5_digest_19 {X : XT} {E : EvT} {Z : Nat → Prop} {Q : State → Prop} {A : Nat → Nat} (C : Cx X (.code yX5_digest cX5_digest 3 (some .long)) cX5_digest 3 RX5 rm_X5_digest.frames rm_X5_digest.locals) (K : Ck X E Z) {r0 : Int64} {V0 : Nat → Nat → Int32} {L0 : Nat → Int64} (hret : RLo X 3 cX5_digest (IF X E Z (mw E A)) Q r0 (V0, L0)) {k9 : (Nat → Nat → Int32) → (Nat → Int64) → Int32 → Option (Int64 × (Nat → Nat → Int32) × (Nat → Int64))} (hk9 : ∀ (V : Nat → Nat → Int32) (L : Nat → Int64) (x1 : Int32), k9 V L x1 = some (r0, V0, L0) → Wm X 3 (IF X E Z (mw E A)) Q 9 [(0, .ref (A 0)), (1, .int x1)] [] (V, L)) (x1 : Int32) : ∀ (n : Nat) (V : Nat → Nat → Int32) (L : Nat → Int64) (x2 : Int32), f_X5_digest_19 k9 x1 n V L x2 = some (r0, V0, L0) → Wm X 3 (IF X E Z (mw E A)) Q 19 [(0, .ref (A 0)), (1, .int x1), (2, .int x2)] [] (V, L) := by
  intro n
  induction n with
  | zero =>
    intro V L x2 hf
    exact none_e hf
  | succ n ih =>
    intro V L x2 hf
    rw [f_X5_digest_19] at hf
    refine r_iload_n C dX5_digest_19 2 rfl rfl ?_
    refine r_bipush C dX5_digest_20 kb_6 ?_
    refine r_icmp_ge C (tgt := 42) dX5_digest_22 rfl hf (fun hf => ?_) (fun hf => ?_)
    · refine r_aload_n C dX5_digest_42 0 rfl rfl ?_
      refine r_aload_n C dX5_digest_43 0 rfl rfl ?_
      refine r_iload_n C dX5_digest_44 1 rfl rfl ?_
      refine r_bipush C dX5_digest_45 kb_7 ?_
      refine bd3_e hf (fun r_1 V_2 L_3 hq hf => ?_)
      refine f_callI C K cal_RX5_216 ⟨rfl, rfl, Nat.le_of_ble_eq_true rfl, Nat.le_of_ble_eq_true rfl⟩ (t_X5_beginNow _ x1 (7 : Int32) hq) (mw_o0 E A _ _) rfl (mw_fst _ _ _ _ _ _) rfl (rest := [.ref (A 0)]) rfl (Nat.le_of_ble_eq_true rfl) dX5_digest_47 ?_
      refine r_i2l C dX5_digest_50 ?_
      refine bd2_e hf (fun V_4 L_5 hq hf => ?_)
      refine f_callV C K cal_RX5_334 ⟨rfl, rfl, Nat.le_of_ble_eq_true rfl, Nat.le_of_ble_eq_true rfl⟩ (t_X5_mix _ r_1.toInt64 hq) (mw_o0 E A _ _) rfl (mw_fst _ _ _ _ _ _) rfl (rest := []) rfl (Nat.le_of_ble_eq_true rfl) dX5_digest_51 ?_
      refine r_iinc C dX5_digest_54 1 rfl (kn_1 _) (Nat.le_of_ble_eq_true rfl) (lv2 := [(1, .int (x1 + 1)), (0, .ref (A 0)), (2, .int x2)]) rfl ?_
      refine r_goto C (tgt := 9) dX5_digest_57 rfl ?_
      exact r_sub [1, 0] rfl (hk9 V_4 L_5 (x1 + 1) hf)
    · refine r_aload_n C dX5_digest_25 0 rfl rfl ?_
      refine r_aload_n C dX5_digest_26 0 rfl rfl ?_
      refine r_iload_n C dX5_digest_27 1 rfl rfl ?_
      refine r_iload_n C dX5_digest_28 2 rfl rfl ?_
      refine bd3_e hf (fun r_6 V_7 L_8 hq hf => ?_)
      refine f_callI C K cal_RX5_200 ⟨rfl, rfl, Nat.le_of_ble_eq_true rfl, Nat.le_of_ble_eq_true rfl⟩ (t_X5_childNow _ x1 x2 hq) (mw_o0 E A _ _) rfl (mw_fst _ _ _ _ _ _) rfl (rest := [.ref (A 0)]) rfl (Nat.le_of_ble_eq_true rfl) dX5_digest_29 ?_
      refine r_i2l C dX5_digest_32 ?_
      refine bd2_e hf (fun V_9 L_10 hq hf => ?_)
      refine f_callV C K cal_RX5_334 ⟨rfl, rfl, Nat.le_of_ble_eq_true rfl, Nat.le_of_ble_eq_true rfl⟩ (t_X5_mix _ r_6.toInt64 hq) (mw_o0 E A _ _) rfl (mw_fst _ _ _ _ _ _) rfl (rest := []) rfl (Nat.le_of_ble_eq_true rfl) dX5_digest_33 ?_
      refine r_iinc C dX5_digest_36 2 rfl (kn_1 _) (Nat.le_of_ble_eq_true rfl) (lv2 := [(2, .int (x2 + 1)), (0, .ref (A 0)), (1, .int x1)]) rfl ?_
      refine r_goto C (tgt := 19) dX5_digest_39 rfl ?_
      exact r_sub [1, 2, 0] rfl (ih V_9 L_10 (x2 + 1) hf)
set_option maxRecDepth 100000 in
theorem w_X5_digest_72 {X : XT} {E : EvT} {Z : Nat → Prop} {Q : State → Prop} {A : Nat → Nat} (C : Cx X (.code yX5_digest cX5_digest 3 (some .long)) cX5_digest 3 RX5 rm_X5_digest.frames rm_X5_digest.locals) (K : Ck X E Z) {r0 : Int64} {V0 : Nat → Nat → Int32} {L0 : Nat → Int64} (hret : RLo X 3 cX5_digest (IF X E Z (mw E A)) Q r0 (V0, L0)) {k62 : (Nat → Nat → Int32) → (Nat → Int64) → Int32 → Option (Int64 × (Nat → Nat → Int32) × (Nat → Int64))} (hk62 : ∀ (V : Nat → Nat → Int32) (L : Nat → Int64) (x1 : Int32), k62 V L x1 = some (r0, V0, L0) → Wm X 3 (IF X E Z (mw E A)) Q 62 [(0, .ref (A 0)), (1, .int x1)] [] (V, L)) (x1 : Int32) : ∀ (n : Nat) (V : Nat → Nat → Int32) (L : Nat → Int64) (x2 : Int32), f_X5_digest_72 k62 x1 n V L x2 = some (r0, V0, L0) → Wm X 3 (IF X E Z (mw E A)) Q 72 [(0, .ref (A 0)), (1, .int x1), (2, .int x2)] [] (V, L) := by
  intro n
  induction n with
  | zero =>
    intro V L x2 hf
    exact none_e hf
  | succ n ih =>
    intro V L x2 hf
    rw [f_X5_digest_72] at hf
    refine r_iload_n C dX5_digest_72 2 rfl rfl ?_
    refine r_iconst C dX5_digest_73 ki_3 ?_
    refine r_icmp_ge C (tgt := 94) dX5_digest_74 rfl hf (fun hf => ?_) (fun hf => ?_)
    · refine r_iinc C dX5_digest_94 1 rfl (kn_1 _) (Nat.le_of_ble_eq_true rfl) (lv2 := [(1, .int (x1 + 1)), (0, .ref (A 0)), (2, .int x2)]) rfl ?_
      refine r_goto C (tgt := 62) dX5_digest_97 rfl ?_
      exact r_sub [1, 0] rfl (hk62 V L (x1 + 1) hf)
    · refine r_aload_n C dX5_digest_77 0 rfl rfl ?_
      refine r_aload_n C dX5_digest_78 0 rfl rfl ?_
      refine r_iload_n C dX5_digest_79 1 rfl rfl ?_
      refine r_iload_n C dX5_digest_80 2 rfl rfl ?_
      refine bd3_e hf (fun r_1 V_2 L_3 hq hf => ?_)
      refine f_callI C K cal_RX5_210 ⟨rfl, rfl, Nat.le_of_ble_eq_true rfl, Nat.le_of_ble_eq_true rfl⟩ (t_X5_verseNow _ x1 x2 hq) (mw_o0 E A _ _) rfl (mw_fst _ _ _ _ _ _) rfl (rest := [.ref (A 0)]) rfl (Nat.le_of_ble_eq_true rfl) dX5_digest_81 ?_
      refine r_i2l C dX5_digest_84 ?_
      refine bd2_e hf (fun V_4 L_5 hq hf => ?_)
      refine f_callV C K cal_RX5_334 ⟨rfl, rfl, Nat.le_of_ble_eq_true rfl, Nat.le_of_ble_eq_true rfl⟩ (t_X5_mix _ r_1.toInt64 hq) (mw_o0 E A _ _) rfl (mw_fst _ _ _ _ _ _) rfl (rest := []) rfl (Nat.le_of_ble_eq_true rfl) dX5_digest_85 ?_
      refine r_iinc C dX5_digest_88 2 rfl (kn_1 _) (Nat.le_of_ble_eq_true rfl) (lv2 := [(2, .int (x2 + 1)), (0, .ref (A 0)), (1, .int x1)]) rfl ?_
      refine r_goto C (tgt := 72) dX5_digest_91 rfl ?_
      exact r_sub [1, 2, 0] rfl (ih V_4 L_5 (x2 + 1) hf)
set_option maxRecDepth 100000 in
theorem w_X5_digest_140 {X : XT} {E : EvT} {Z : Nat → Prop} {Q : State → Prop} {A : Nat → Nat} (C : Cx X (.code yX5_digest cX5_digest 3 (some .long)) cX5_digest 3 RX5 rm_X5_digest.frames rm_X5_digest.locals) (K : Ck X E Z) {r0 : Int64} {V0 : Nat → Nat → Int32} {L0 : Nat → Int64} (hret : RLo X 3 cX5_digest (IF X E Z (mw E A)) Q r0 (V0, L0)) : ∀ (n : Nat) (V : Nat → Nat → Int32) (L : Nat → Int64) (x1 : Int32), f_X5_digest_140 n V L x1 = some (r0, V0, L0) → Wm X 3 (IF X E Z (mw E A)) Q 140 [(0, .ref (A 0)), (1, .int x1)] [] (V, L) := by
  intro n
  induction n with
  | zero =>
    intro V L x1 hf
    exact none_e hf
  | succ n ih =>
    intro V L x1 hf
    rw [f_X5_digest_140] at hf
    refine r_iload_n C dX5_digest_140 1 rfl rfl ?_
    refine r_bipush C dX5_digest_141 kb_11 ?_
    refine r_icmp_ge C (tgt := 162) dX5_digest_143 rfl hf (fun hf => ?_) (fun hf => ?_)
    · refine r_aload_n C dX5_digest_162 0 rfl rfl ?_
      refine g_RX5_331_0 C K dX5_digest_163 ?_
      exact rl_OW hret hf dX5_digest_166
    · refine r_aload_n C dX5_digest_146 0 rfl rfl ?_
      refine r_aload_n C dX5_digest_147 0 rfl rfl ?_
      refine r_iload_n C dX5_digest_148 1 rfl rfl ?_
      refine bd1_e hf (fun r_1 hq hf => ?_)
      refine f_callI C K cal_RX5_326 ⟨rfl, rfl, Nat.le_of_ble_eq_true rfl, Nat.le_of_ble_eq_true rfl⟩ (t_X5_howMany _ x1 hq) (mw_o0 E A _ _) rfl (mw_fst _ _ _ _ _ _) rfl (rest := [.ref (A 0)]) rfl (Nat.le_of_ble_eq_true rfl) dX5_digest_149 ?_
      refine r_i2l C dX5_digest_152 ?_
      refine bd2_e hf (fun V_2 L_3 hq hf => ?_)
      refine f_callV C K cal_RX5_334 ⟨rfl, rfl, Nat.le_of_ble_eq_true rfl, Nat.le_of_ble_eq_true rfl⟩ (t_X5_mix _ r_1.toInt64 hq) (mw_o0 E A _ _) rfl (mw_fst _ _ _ _ _ _) rfl (rest := []) rfl (Nat.le_of_ble_eq_true rfl) dX5_digest_153 ?_
      refine r_iinc C dX5_digest_156 1 rfl (kn_1 _) (Nat.le_of_ble_eq_true rfl) (lv2 := [(1, .int (x1 + 1)), (0, .ref (A 0))]) rfl ?_
      refine r_goto C (tgt := 140) dX5_digest_159 rfl ?_
      exact r_sub [1, 0] rfl (ih V_2 L_3 (x1 + 1) hf)
set_option maxRecDepth 100000 in
theorem w_X5_digest_113 {X : XT} {E : EvT} {Z : Nat → Prop} {Q : State → Prop} {A : Nat → Nat} (C : Cx X (.code yX5_digest cX5_digest 3 (some .long)) cX5_digest 3 RX5 rm_X5_digest.frames rm_X5_digest.locals) (K : Ck X E Z) {r0 : Int64} {V0 : Nat → Nat → Int32} {L0 : Nat → Int64} (hret : RLo X 3 cX5_digest (IF X E Z (mw E A)) Q r0 (V0, L0)) : ∀ (n : Nat) (V : Nat → Nat → Int32) (L : Nat → Int64) (x1 : Int32), f_X5_digest_113 n V L x1 = some (r0, V0, L0) → Wm X 3 (IF X E Z (mw E A)) Q 113 [(0, .ref (A 0)), (1, .int x1)] [] (V, L) := by
  intro n
  induction n with
  | zero =>
    intro V L x1 hf
    exact none_e hf
  | succ n ih =>
    intro V L x1 hf
    rw [f_X5_digest_113] at hf
    refine r_iload_n C dX5_digest_113 1 rfl rfl ?_
    refine r_aload_n C dX5_digest_114 0 rfl rfl ?_
    refine g_RX5_81_0 C K dX5_digest_115 ?_
    refine r_icmp_ge C (tgt := 138) dX5_digest_118 rfl hf (fun hf => ?_) (fun hf => ?_)
    · refine r_iconst C dX5_digest_138 ki_0 ?_
      refine r_istore_n C dX5_digest_139 rfl (Nat.le_of_ble_eq_true rfl) (lv2 := [(1, .int (0 : Int32)), (0, .ref (A 0))]) rfl ?_
      exact r_sub [1, 0] rfl (w_X5_digest_140 C K hret 20000 V L (0 : Int32) hf)
    · refine r_aload_n C dX5_digest_121 0 rfl rfl ?_
      refine r_aload_n C dX5_digest_122 0 rfl rfl ?_
      refine g_RX5_22_0 C K dX5_digest_123 ?_
      refine r_iload_n C dX5_digest_126 1 rfl rfl ?_
      refine s_bald C K (mw_a14 E A _ _) dX5_digest_127 hf (fun hf => ?_)
      refine r_i2l C dX5_digest_128 ?_
      refine bd2_e hf (fun V_1 L_2 hq hf => ?_)
      refine f_callV C K cal_RX5_334 ⟨rfl, rfl, Nat.le_of_ble_eq_true rfl, Nat.le_of_ble_eq_true rfl⟩ (t_X5_mix _ ((V 14 x1.toNatClampNeg).toInt64) hq) (mw_o0 E A _ _) rfl (mw_fst _ _ _ _ _ _) rfl (rest := []) rfl (Nat.le_of_ble_eq_true rfl) dX5_digest_129 ?_
      refine r_iinc C dX5_digest_132 1 rfl (kn_1 _) (Nat.le_of_ble_eq_true rfl) (lv2 := [(1, .int (x1 + 1)), (0, .ref (A 0))]) rfl ?_
      refine r_goto C (tgt := 113) dX5_digest_135 rfl ?_
      exact r_sub [1, 0] rfl (ih V_1 L_2 (x1 + 1) hf)
set_option maxRecDepth 100000 in
theorem w_X5_digest_62 {X : XT} {E : EvT} {Z : Nat → Prop} {Q : State → Prop} {A : Nat → Nat} (C : Cx X (.code yX5_digest cX5_digest 3 (some .long)) cX5_digest 3 RX5 rm_X5_digest.frames rm_X5_digest.locals) (K : Ck X E Z) {r0 : Int64} {V0 : Nat → Nat → Int32} {L0 : Nat → Int64} (hret : RLo X 3 cX5_digest (IF X E Z (mw E A)) Q r0 (V0, L0)) : ∀ (n : Nat) (V : Nat → Nat → Int32) (L : Nat → Int64) (x1 : Int32), f_X5_digest_62 n V L x1 = some (r0, V0, L0) → Wm X 3 (IF X E Z (mw E A)) Q 62 [(0, .ref (A 0)), (1, .int x1)] [] (V, L) := by
  intro n
  induction n with
  | zero =>
    intro V L x1 hf
    exact none_e hf
  | succ n ih =>
    intro V L x1 hf
    rw [f_X5_digest_62] at hf
    refine r_iload_n C dX5_digest_62 1 rfl rfl ?_
    refine r_aload_n C dX5_digest_63 0 rfl rfl ?_
    refine g_RX5_113_0 C K dX5_digest_64 ?_
    refine r_icmp_ge C (tgt := 100) dX5_digest_67 rfl hf (fun hf => ?_) (fun hf => ?_)
    · refine r_aload_n C dX5_digest_100 0 rfl rfl ?_
      refine g_RX5_116_0 C K dX5_digest_101 ?_
      refine r_if_le C (tgt := 111) dX5_digest_104 rfl hf (fun hf => ?_) (fun hf => ?_)
      · refine r_iconst C dX5_digest_111 ki_0 ?_
        refine r_istore_n C dX5_digest_112 rfl (Nat.le_of_ble_eq_true rfl) (lv2 := [(1, .int (0 : Int32)), (0, .ref (A 0))]) rfl ?_
        exact r_sub [1, 0] rfl (w_X5_digest_113 C K hret 20000 V L (0 : Int32) hf)
      · refine r_aload_n C dX5_digest_107 0 rfl rfl ?_
        refine bd2_e hf (fun V_1 L_2 hq hf => ?_)
        refine f_callV C K cal_RX5_340 ⟨rfl, rfl, Nat.le_of_ble_eq_true rfl, Nat.le_of_ble_eq_true rfl⟩ (t_X5_mixRing _ hq) (mw_o0 E A _ _) rfl (mw_fst _ _ _ _ _ _) rfl (rest := []) rfl (Nat.le_of_ble_eq_true rfl) dX5_digest_108 ?_
        refine r_iconst C dX5_digest_111 ki_0 ?_
        refine r_istore_n C dX5_digest_112 rfl (Nat.le_of_ble_eq_true rfl) (lv2 := [(1, .int (0 : Int32)), (0, .ref (A 0))]) rfl ?_
        exact r_sub [1, 0] rfl (w_X5_digest_113 C K hret 20000 V_1 L_2 (0 : Int32) hf)
    · refine r_iconst C dX5_digest_70 ki_0 ?_
      refine r_istore_n C dX5_digest_71 rfl (Nat.le_of_ble_eq_true rfl) (lv2 := [(2, .int (0 : Int32)), (0, .ref (A 0)), (1, .int x1)]) rfl ?_
      exact r_sub [1, 2, 0] rfl (w_X5_digest_72 C K hret ih x1 20000 V L (0 : Int32) hf)
set_option maxRecDepth 100000 in
theorem w_X5_digest_9 {X : XT} {E : EvT} {Z : Nat → Prop} {Q : State → Prop} {A : Nat → Nat} (C : Cx X (.code yX5_digest cX5_digest 3 (some .long)) cX5_digest 3 RX5 rm_X5_digest.frames rm_X5_digest.locals) (K : Ck X E Z) {r0 : Int64} {V0 : Nat → Nat → Int32} {L0 : Nat → Int64} (hret : RLo X 3 cX5_digest (IF X E Z (mw E A)) Q r0 (V0, L0)) : ∀ (n : Nat) (V : Nat → Nat → Int32) (L : Nat → Int64) (x1 : Int32), f_X5_digest_9 n V L x1 = some (r0, V0, L0) → Wm X 3 (IF X E Z (mw E A)) Q 9 [(0, .ref (A 0)), (1, .int x1)] [] (V, L) := by
  intro n
  induction n with
  | zero =>
    intro V L x1 hf
    exact none_e hf
  | succ n ih =>
    intro V L x1 hf
    rw [f_X5_digest_9] at hf
    refine r_iload_n C dX5_digest_9 1 rfl rfl ?_
    refine r_aload_n C dX5_digest_10 0 rfl rfl ?_
    refine g_RX5_116_0 C K dX5_digest_11 ?_
    refine r_icmp_ge C (tgt := 60) dX5_digest_14 rfl hf (fun hf => ?_) (fun hf => ?_)
    · refine r_iconst C dX5_digest_60 ki_0 ?_
      refine r_istore_n C dX5_digest_61 rfl (Nat.le_of_ble_eq_true rfl) (lv2 := [(1, .int (0 : Int32)), (0, .ref (A 0))]) rfl ?_
      exact r_sub [1, 0] rfl (w_X5_digest_62 C K hret 20000 V L (0 : Int32) hf)
    · refine r_iconst C dX5_digest_17 ki_0 ?_
      refine r_istore_n C dX5_digest_18 rfl (Nat.le_of_ble_eq_true rfl) (lv2 := [(2, .int (0 : Int32)), (0, .ref (A 0)), (1, .int x1)]) rfl ?_
      exact r_sub [1, 2, 0] rfl (w_X5_digest_19 C K hret ih x1 20000 V L (0 : Int32) hf)
set_option maxRecDepth 100000 in
theorem w_X5_digest_0 {X : XT} {E : EvT} {Z : Nat → Prop} {Q : State → Prop} {A : Nat → Nat} (C : Cx X (.code yX5_digest cX5_digest 3 (some .long)) cX5_digest 3 RX5 rm_X5_digest.frames rm_X5_digest.locals) (K : Ck X E Z) {r0 : Int64} {V0 : Nat → Nat → Int32} {L0 : Nat → Int64} (hret : RLo X 3 cX5_digest (IF X E Z (mw E A)) Q r0 (V0, L0)) : ∀ (V : Nat → Nat → Int32) (L : Nat → Int64), f_X5_digest V L = some (r0, V0, L0) → Wm X 3 (IF X E Z (mw E A)) Q 0 [(0, .ref (A 0))] [] (V, L) := by
  intro V L hf
  rw [f_X5_digest] at hf
  refine r_aload_n C dX5_digest_0 0 rfl rfl ?_
  refine r_ldc2 C q_kl_RX5_338 dX5_digest_1 ?_
  refine p_RX5_331_0 C K dX5_digest_4 hf (fun L_1 hf => ?_)
  refine r_iconst C dX5_digest_7 ki_0 ?_
  refine r_istore_n C dX5_digest_8 rfl (Nat.le_of_ble_eq_true rfl) (lv2 := [(1, .int (0 : Int32)), (0, .ref (A 0))]) rfl ?_
  exact r_sub [1, 0] rfl (w_X5_digest_9 C K hret 20000 V L_1 (0 : Int32) hf)
theorem t_X5_digest (l : Launch) {E : EvT} {A : Nat → Nat} {V : Nat → Nat → Int32} {L : Nat → Int64} {r0 : Int64} {V0 : Nat → Nat → Int32} {L0 : Nat → Int64} (hq : f_X5_digest V L = some (r0, V0, L0)) : KL l yX5_digest (.code yX5_digest cX5_digest 3 (some .long) :: wA) rm_X5_digest E (mw E A V L) (mw E A V0 L0) [.ref (A 0)] r0 := by
  refine ent_L (own := RX5) (lv0 := [(0, .ref (A 0))]) (by decide) rfl rfl (Nat.le_of_ble_eq_true rfl) rfl (mw_fst _ _ _ _ _ _) ?_
  intro X Z Q hl C K hret
  exact w_X5_digest_0 C K hret V L  hq
