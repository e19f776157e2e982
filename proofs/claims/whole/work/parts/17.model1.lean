set_option maxRecDepth 100000 in
theorem w_X5_within_0 {X : XT} {Q : State → Prop} (C : Cx X (.code yX5_within cX5_within 3 (some .boolean)) cX5_within 3 RX5 rm_X5_within.frames rm_X5_within.locals) {r0 : Int32} (hret : RI X 3 cX5_within (IP X) Q .boolean r0 ()) : ∀ (x0 : Int32) (x1 : Int32) (x2 : Int32), f_X5_within x0 x1 x2 = r0 → Wm X 3 (IP X) Q 0 [(0, .int x0), (1, .int x1), (2, .int x2)] [] () := by
  intro x0 x1 x2 hf
  rw [f_X5_within] at hf
  refine r_iload_n C dX5_within_0 0 rfl rfl ?_
  refine r_iload_n C dX5_within_1 1 rfl rfl ?_
  refine r_icmp_lt C (tgt := 14) dX5_within_2 rfl hf (fun hf => ?_) (fun hf => ?_)
  · refine r_iconst C dX5_within_14 ki_0 ?_
    exact ri_T hret hf dX5_within_15 rfl
  · refine r_iload_n C dX5_within_5 0 rfl rfl ?_
    refine r_iload_n C dX5_within_6 2 rfl rfl ?_
    refine r_icmp_gt C (tgt := 14) dX5_within_7 rfl hf (fun hf => ?_) (fun hf => ?_)
    · refine r_iconst C dX5_within_14 ki_0 ?_
      exact ri_T hret hf dX5_within_15 rfl
    · refine r_iconst C dX5_within_10 ki_1 ?_
      refine r_goto C (tgt := 15) dX5_within_11 rfl ?_
      exact ri_T hret hf dX5_within_15 rfl
theorem t_X5_within (l : Launch) (x0 : Int32) (x1 : Int32) (x2 : Int32) : KP l yX5_within (.code yX5_within cX5_within 3 (some .boolean) :: wA) rm_X5_within [.int x0, .int x1, .int x2] (f_X5_within x0 x1 x2) := by
  refine ent_P (own := RX5) (ty := .boolean) (lv0 := [(0, .int x0), (1, .int x1), (2, .int x2)]) (by decide) rfl rfl (Nat.le_of_ble_eq_true rfl) rfl ?_
  intro X Q hl C hret
  exact w_X5_within_0 C hret x0 x1 x2 rfl
set_option maxRecDepth 100000 in
theorem w_X5_isIn_0 {X : XT} {Q : State → Prop} (C : Cx X (.code yX5_isIn cX5_isIn 2 (some .boolean)) cX5_isIn 2 RX5 rm_X5_isIn.frames rm_X5_isIn.locals) {r0 : Int32} (hret : RI X 2 cX5_isIn (IP X) Q .boolean r0 ()) : ∀ (x0 : Int32) (x1 : Int32), f_X5_isIn x0 x1 = r0 → Wm X 2 (IP X) Q 0 [(0, .int x0), (1, .int x1)] [] () := by
  intro x0 x1 hf
  rw [f_X5_isIn] at hf
  refine r_iload_n C dX5_isIn_0 0 rfl rfl ?_
  refine r_iload_n C dX5_isIn_1 1 rfl rfl ?_
  refine p_ishr C dX5_isIn_2 ?_
  refine r_iconst C dX5_isIn_3 ki_1 ?_
  refine r_iand C dX5_isIn_4 ?_
  refine r_iconst C dX5_isIn_5 ki_1 ?_
  refine r_icmp_ne C (tgt := 13) dX5_isIn_6 rfl hf (fun hf => ?_) (fun hf => ?_)
  · refine r_iconst C dX5_isIn_13 ki_0 ?_
    exact ri_T hret hf dX5_isIn_14 rfl
  · refine r_iconst C dX5_isIn_9 ki_1 ?_
    refine r_goto C (tgt := 14) dX5_isIn_10 rfl ?_
    exact ri_T hret hf dX5_isIn_14 rfl
theorem t_X5_isIn (l : Launch) (x0 : Int32) (x1 : Int32) : KP l yX5_isIn (.code yX5_isIn cX5_isIn 2 (some .boolean) :: wA) rm_X5_isIn [.int x0, .int x1] (f_X5_isIn x0 x1) := by
  refine ent_P (own := RX5) (ty := .boolean) (lv0 := [(0, .int x0), (1, .int x1)]) (by decide) rfl rfl (Nat.le_of_ble_eq_true rfl) rfl ?_
  intro X Q hl C hret
  exact w_X5_isIn_0 C hret x0 x1 rfl
set_option maxRecDepth 100000 in
theorem w_X5_size_4 {X : XT} {Q : State → Prop} (C : Cx X (.code yX5_size cX5_size 3 (some .int)) cX5_size 3 RX5 rm_X5_size.frames rm_X5_size.locals) {r0 : Int32} (hret : RI X 3 cX5_size (IP X) Q .int r0 ()) (x0 : Int32) : ∀ (n : Nat) (x1 : Int32) (x2 : Int32), f_X5_size_4 x0 n x1 x2 = some r0 → Wm X 3 (IP X) Q 4 [(0, .int x0), (1, .int x1), (2, .int x2)] [] () := by
  intro n
  induction n with
  | zero =>
    intro x1 x2 hf
    exact none_e hf
  | succ n ih =>
    intro x1 x2 hf
    rw [f_X5_size_4] at hf
    refine r_iload_n C dX5_size_4 2 rfl rfl ?_
    refine r_bipush C dX5_size_5 kb_24 ?_
    refine r_icmp_ge C (tgt := 24) dX5_size_7 rfl hf (fun hf => ?_) (fun hf => ?_)
    · refine r_iload_n C dX5_size_24 1 rfl rfl ?_
      exact ri_OR hret hf dX5_size_25 rfl
    · refine r_iload_n C dX5_size_10 1 rfl rfl ?_
      refine r_iload_n C dX5_size_11 0 rfl rfl ?_
      refine r_iload_n C dX5_size_12 2 rfl rfl ?_
      refine p_ishr C dX5_size_13 ?_
      refine r_iconst C dX5_size_14 ki_1 ?_
      refine r_iand C dX5_size_15 ?_
      refine r_iadd C dX5_size_16 ?_
      refine b_int hf (fun t_1 hf => ?_)
      refine r_istore_n C dX5_size_17 rfl (Nat.le_of_ble_eq_true rfl) (lv2 := [(1, .int t_1), (0, .int x0), (2, .int x2)]) rfl ?_
      refine r_iinc C dX5_size_18 2 rfl (kn_1 _) (Nat.le_of_ble_eq_true rfl) (lv2 := [(2, .int (x2 + 1)), (1, .int t_1), (0, .int x0)]) rfl ?_
      refine r_goto C (tgt := 4) dX5_size_21 rfl ?_
      exact r_sub [2, 1, 0] rfl (ih t_1 (x2 + 1) hf)
set_option maxRecDepth 100000 in
theorem w_X5_size_0 {X : XT} {Q : State → Prop} (C : Cx X (.code yX5_size cX5_size 3 (some .int)) cX5_size 3 RX5 rm_X5_size.frames rm_X5_size.locals) {r0 : Int32} (hret : RI X 3 cX5_size (IP X) Q .int r0 ()) : ∀ (x0 : Int32), f_X5_size x0 = some r0 → Wm X 3 (IP X) Q 0 [(0, .int x0)] [] () := by
  intro x0 hf
  rw [f_X5_size] at hf
  refine r_iconst C dX5_size_0 ki_0 ?_
  refine r_istore_n C dX5_size_1 rfl (Nat.le_of_ble_eq_true rfl) (lv2 := [(1, .int (0 : Int32)), (0, .int x0)]) rfl ?_
  refine r_iconst C dX5_size_2 ki_0 ?_
  refine r_istore_n C dX5_size_3 rfl (Nat.le_of_ble_eq_true rfl) (lv2 := [(2, .int (0 : Int32)), (1, .int (0 : Int32)), (0, .int x0)]) rfl ?_
  exact r_sub [2, 1, 0] rfl (w_X5_size_4 C hret x0 20000 (0 : Int32) (0 : Int32) hf)
theorem t_X5_size (l : Launch) (x0 : Int32) {r0 : Int32} (hq : f_X5_size x0 = some r0) : KP l yX5_size (.code yX5_size cX5_size 3 (some .int) :: wA) rm_X5_size [.int x0] r0 := by
  refine ent_P (own := RX5) (ty := .int) (lv0 := [(0, .int x0)]) (by decide) rfl rfl (Nat.le_of_ble_eq_true rfl) rfl ?_
  intro X Q hl C hret
  exact w_X5_size_0 C hret x0 hq
set_option maxRecDepth 100000 in
theorem w_X5_divisor_4 {X : XT} {Q : State → Prop} (C : Cx X (.code yX5_divisor cX5_divisor 5 (some .int)) cX5_divisor 5 RX5 rm_X5_divisor.frames rm_X5_divisor.locals) {r0 : Int32} (hret : RI X 5 cX5_divisor (IP X) Q .int r0 ()) : ∀ (n : Nat) (x2 : Int32) (x3 : Int32), f_X5_divisor_4 n x2 x3 = some r0 → Wm X 5 (IP X) Q 4 [(2, .int x2), (3, .int x3)] [] () := by
  intro n
  induction n with
  | zero =>
    intro x2 x3 hf
    exact none_e hf
  | succ n ih =>
    intro x2 x3 hf
    rw [f_X5_divisor_4] at hf
    refine r_iload_n C dX5_divisor_4 1 rfl rfl ?_
    refine r_if_eq C (tgt := 21) dX5_divisor_5 rfl hf (fun hf => ?_) (fun hf => ?_)
    · refine r_iload_n C dX5_divisor_21 0 rfl rfl ?_
      exact ri_OR hret hf dX5_divisor_22 rfl
    · refine r_iload_n C dX5_divisor_8 0 rfl rfl ?_
      refine r_iload_n C dX5_divisor_9 1 rfl rfl ?_
      refine gd_ni hf (fun hne hf => ?_)
      refine p_irem C dX5_divisor_10 hne ?_
      refine r_istore C dX5_divisor_11 (Nat.le_of_ble_eq_true rfl) (lv2 := [(4, .int (irem x2 x3)), (2, .int x2), (3, .int x3)]) rfl ?_
      refine r_iload_n C dX5_divisor_13 2 rfl rfl ?_
      refine r_istore_n C dX5_divisor_14 rfl (Nat.le_of_ble_eq_true rfl) (lv2 := [(2, .int x3), (4, .int (irem x2 x3)), (3, .int x3)]) rfl ?_
      refine r_iload C dX5_divisor_15 1 rfl ?_
      refine r_istore_n C dX5_divisor_17 rfl (Nat.le_of_ble_eq_true rfl) (lv2 := [(3, .int (irem x2 x3)), (2, .int x3), (4, .int (irem x2 x3))]) rfl ?_
      refine r_goto C (tgt := 4) dX5_divisor_18 rfl ?_
      exact r_sub [1, 0] rfl (ih x3 (irem x2 x3) hf)
set_option maxRecDepth 100000 in
theorem w_X5_divisor_0 {X : XT} {Q : State → Prop} (C : Cx X (.code yX5_divisor cX5_divisor 5 (some .int)) cX5_divisor 5 RX5 rm_X5_divisor.frames rm_X5_divisor.locals) {r0 : Int32} (hret : RI X 5 cX5_divisor (IP X) Q .int r0 ()) : ∀ (x0 : Int32) (x1 : Int32), f_X5_divisor x0 x1 = some r0 → Wm X 5 (IP X) Q 0 [(0, .int x0), (1, .int x1)] [] () := by
  intro x0 x1 hf
  rw [f_X5_divisor] at hf
  refine r_iload_n C dX5_divisor_0 0 rfl rfl ?_
  refine r_istore_n C dX5_divisor_1 rfl (Nat.le_of_ble_eq_true rfl) (lv2 := [(2, .int x0), (0, .int x0), (1, .int x1)]) rfl ?_
  refine r_iload_n C dX5_divisor_2 2 rfl rfl ?_
  refine r_istore_n C dX5_divisor_3 rfl (Nat.le_of_ble_eq_true rfl) (lv2 := [(3, .int x1), (2, .int x0), (0, .int x0), (1, .int x1)]) rfl ?_
  exact r_sub [1, 0] rfl (w_X5_divisor_4 C hret 20000 x0 x1 hf)
theorem t_X5_divisor (l : Launch) (x0 : Int32) (x1 : Int32) {r0 : Int32} (hq : f_X5_divisor x0 x1 = some r0) : KP l yX5_divisor (.code yX5_divisor cX5_divisor 5 (some .int) :: wA) rm_X5_divisor [.int x0, .int x1] r0 := by
  refine ent_P (own := RX5) (ty := .int) (lv0 := [(0, .int x0), (1, .int x1)]) (by decide) rfl rfl (Nat.le_of_ble_eq_true rfl) rfl ?_
  intro X Q hl C hret
  exact w_X5_divisor_0 C hret x0 x1 hq
set_option maxRecDepth 100000 in
theorem w_X5_letter_0 {X : XT} {E : EvT} {Z : Nat → Prop} {Q : State → Prop} {A : Nat → Nat} (C : Cx X (.code yX5_letter cX5_letter 2 (some .int)) cX5_letter 2 RX5 rm_X5_letter.frames rm_X5_letter.locals) (K : Ck X E Z) {r0 : Int32} {V0 : Nat → Nat → Int32} {L0 : Nat → Int64} (hret : RI X 2 cX5_letter (IF X E Z (mw E A)) Q .int r0 (V0, L0)) : ∀ (V : Nat → Nat → Int32) (L : Nat → Int64) (x1 : Int32), f_X5_letter V L x1 = some (r0, V0, L0) → Wm X 2 (IF X E Z (mw E A)) Q 0 [(0, .ref (A 0)), (1, .int x1)] [] (V, L) := by
  intro V L x1 hf
  rw [f_X5_letter] at hf
  refine r_iload_n C dX5_letter_0 1 rfl rfl ?_
  refine r_bipush C dX5_letter_1 kb_32 ?_
  refine r_bipush C dX5_letter_3 kb_126 ?_
  refine r_callP C cas_RX5_77 ⟨rfl, rfl, Nat.le_of_ble_eq_true rfl, Nat.le_of_ble_eq_true rfl⟩ (t_X5_within _ x1 (32 : Int32) (126 : Int32)) rfl (rest := []) rfl (Nat.le_of_ble_eq_true rfl) dX5_letter_5 ?_
  refine r_if_ne C (tgt := 14) dX5_letter_8 rfl hf (fun hf => ?_) (fun hf => ?_)
  · refine r_aload_n C dX5_letter_14 0 rfl rfl ?_
    refine g_RX5_81_0 C K dX5_letter_15 ?_
    refine r_bipush C dX5_letter_18 kb_20 ?_
    refine r_icmp_ne C (tgt := 26) dX5_letter_20 rfl hf (fun hf => ?_) (fun hf => ?_)
    · refine r_aload_n C dX5_letter_26 0 rfl rfl ?_
      refine g_RX5_22_0 C K dX5_letter_27 ?_
      refine r_aload_n C dX5_letter_30 0 rfl rfl ?_
      refine g_RX5_81_0 C K dX5_letter_31 ?_
      refine r_iload_n C dX5_letter_34 1 rfl rfl ?_
      refine p_i2b C dX5_letter_35 ?_
      refine s_bast C K (mw_a14 E A _ _) (fun z x => mw_s14 E A _ _ _) dX5_letter_36 hf (fun V_1 hf => ?_)
      refine r_aload_n C dX5_letter_37 0 rfl rfl ?_
      refine r_dup C dX5_letter_38 rfl ?_
      refine g_RX5_81_0 C K dX5_letter_39 ?_
      refine r_iconst C dX5_letter_42 ki_1 ?_
      refine r_iadd C dX5_letter_43 ?_
      refine p_RX5_81_0 C K dX5_letter_44 hf (fun V_2 hf => ?_)
      refine r_aload_n C dX5_letter_47 0 rfl rfl ?_
      refine g_RX5_81_0 C K dX5_letter_48 ?_
      exact ri_OW hret hf dX5_letter_51 rfl
    · refine r_bipush C dX5_letter_23 kb_m104 ?_
      exact ri_OW hret hf dX5_letter_25 rfl
  · refine r_bipush C dX5_letter_11 kb_m102 ?_
    exact ri_OW hret hf dX5_letter_13 rfl
theorem t_X5_letter (l : Launch) {E : EvT} {A : Nat → Nat} {V : Nat → Nat → Int32} {L : Nat → Int64} (x1 : Int32) {r0 : Int32} {V0 : Nat → Nat → Int32} {L0 : Nat → Int64} (hq : f_X5_letter V L x1 = some (r0, V0, L0)) : KI l yX5_letter (.code yX5_letter cX5_letter 2 (some .int) :: wA) rm_X5_letter E (mw E A V L) (mw E A V0 L0) [.ref (A 0), .int x1] r0 := by
  refine ent_I (own := RX5) (ty := .int) (lv0 := [(0, .ref (A 0)), (1, .int x1)]) (by decide) rfl rfl (Nat.le_of_ble_eq_true rfl) rfl (mw_fst _ _ _ _ _ _) ?_
  intro X Z Q hl C K hret
  exact w_X5_letter_0 C K hret V L x1 hq
set_option maxRecDepth 100000 in
theorem w_X5_blank_0 {X : XT} {E : EvT} {Z : Nat → Prop} {Q : State → Prop} {A : Nat → Nat} (C : Cx X (.code yX5_blank cX5_blank 2 (some .int)) cX5_blank 2 RX5 rm_X5_blank.frames rm_X5_blank.locals) (K : Ck X E Z) {r0 : Int32} {V0 : Nat → Nat → Int32} {L0 : Nat → Int64} (hret : RI X 2 cX5_blank (IF X E Z (mw E A)) Q .int r0 (V0, L0)) : ∀ (V : Nat → Nat → Int32) (L : Nat → Int64), f_X5_blank V L = some (r0, V0, L0) → Wm X 2 (IF X E Z (mw E A)) Q 0 [(0, .ref (A 0))] [] (V, L) := by
  intro V L hf
  rw [f_X5_blank] at hf
  refine r_aload_n C dX5_blank_0 0 rfl rfl ?_
  refine g_RX5_81_0 C K dX5_blank_1 ?_
  refine r_istore_n C dX5_blank_4 rfl (Nat.le_of_ble_eq_true rfl) (lv2 := [(1, .int (V 0 13)), (0, .ref (A 0))]) rfl ?_
  refine r_aload_n C dX5_blank_5 1 rfl rfl ?_
  refine r_iconst C dX5_blank_6 ki_0 ?_
  refine p_RX5_81_0 C K dX5_blank_7 hf (fun V_1 hf => ?_)
  refine r_iload_n C dX5_blank_10 0 rfl rfl ?_
  exact ri_OW hret hf dX5_blank_11 rfl
theorem t_X5_blank (l : Launch) {E : EvT} {A : Nat → Nat} {V : Nat → Nat → Int32} {L : Nat → Int64} {r0 : Int32} {V0 : Nat → Nat → Int32} {L0 : Nat → Int64} (hq : f_X5_blank V L = some (r0, V0, L0)) : KI l yX5_blank (.code yX5_blank cX5_blank 2 (some .int) :: wA) rm_X5_blank E (mw E A V L) (mw E A V0 L0) [.ref (A 0)] r0 := by
  refine ent_I (own := RX5) (ty := .int) (lv0 := [(0, .ref (A 0))]) (by decide) rfl rfl (Nat.le_of_ble_eq_true rfl) rfl (mw_fst _ _ _ _ _ _) ?_
  intro X Z Q hl C K hret
  exact w_X5_blank_0 C K hret V L  hq
set_option maxRecDepth 100000 in
theorem w_X5_kindBy_0 {X : XT} {Q : State → Prop} (C : Cx X (.code yX5_kindBy cX5_kindBy 1 (some .int)) cX5_kindBy 1 RX5 rm_X5_kindBy.frames rm_X5_kindBy.locals) {r0 : Int32} (hret : RI X 1 cX5_kindBy (IP X) Q .int r0 ()) : ∀ (x0 : Int32), f_X5_kindBy x0 = r0 → Wm X 1 (IP X) Q 0 [(0, .int x0)] [] () := by
  intro x0 hf
  rw [f_X5_kindBy] at hf
  refine r_iload_n C dX5_kindBy_0 0 rfl rfl ?_
  refine br_if hf (fun hq hf => ?_) (fun h0 hf => ?_)
  · refine r_lookup C (off := 55) (tgt := 56) dX5_kindBy_1 rfl (by rw [hq]; rfl) rfl ?_
    refine r_iconst C dX5_kindBy_56 ki_2 ?_
    exact ri_T hret hf dX5_kindBy_57 rfl
  refine br_if hf (fun hq hf => ?_) (fun h1 hf => ?_)
  · refine r_lookup C (off := 51) (tgt := 52) dX5_kindBy_1 rfl (by rw [hq]; rfl) rfl ?_
    refine r_iconst C dX5_kindBy_52 ki_0 ?_
    exact ri_T hret hf dX5_kindBy_53 rfl
  refine br_if hf (fun hq hf => ?_) (fun h2 hf => ?_)
  · refine r_lookup C (off := 59) (tgt := 60) dX5_kindBy_1 rfl (by rw [hq]; rfl) rfl ?_
    refine r_iconst C dX5_kindBy_60 ki_4 ?_
    exact ri_T hret hf dX5_kindBy_61 rfl
  refine br_if hf (fun hq hf => ?_) (fun h3 hf => ?_)
  · refine r_lookup C (off := 57) (tgt := 58) dX5_kindBy_1 rfl (by rw [hq]; rfl) rfl ?_
    refine r_iconst C dX5_kindBy_58 ki_3 ?_
    exact ri_T hret hf dX5_kindBy_59 rfl
  refine br_if hf (fun hq hf => ?_) (fun h4 hf => ?_)
  · refine r_lookup C (off := 53) (tgt := 54) dX5_kindBy_1 rfl (by rw [hq]; rfl) rfl ?_
    refine r_iconst C dX5_kindBy_54 ki_1 ?_
    exact ri_T hret hf dX5_kindBy_55 rfl
  refine r_lookup C (off := 61) (tgt := 62) dX5_kindBy_1 rfl ((lv_osw h0 rfl).trans ((lv_osw h1 rfl).trans ((lv_osw h2 rfl).trans ((lv_osw h3 rfl).trans ((lv_osw h4 rfl).trans (rfl)))))) rfl ?_
  refine r_iconst C dX5_kindBy_62 ki_m1 ?_
  exact ri_T hret hf dX5_kindBy_63 rfl
theorem t_X5_kindBy (l : Launch) (x0 : Int32) : KP l yX5_kindBy (.code yX5_kindBy cX5_kindBy 1 (some .int) :: wA) rm_X5_kindBy [.int x0] (f_X5_kindBy x0) := by
  refine ent_P (own := RX5) (ty := .int) (lv0 := [(0, .int x0)]) (by decide) rfl rfl (Nat.le_of_ble_eq_true rfl) rfl ?_
  intro X Q hl C hret
  exact w_X5_kindBy_0 C hret x0 rfl
set_option maxRecDepth 100000 in
theorem w_X5_at_0 {X : XT} {E : EvT} {Z : Nat → Prop} {Q : State → Prop} {A : Nat → Nat} (C : Cx X (.code yX5_at cX5_at 2 (some .int)) cX5_at 2 RX5 rm_X5_at.frames rm_X5_at.locals) (K : Ck X E Z) {r0 : Int32} {V : Nat → Nat → Int32} {L : Nat → Int64} (hret : RI X 2 cX5_at (IF X E Z (mw E A)) Q .int r0 (V, L)) : ∀ (x1 : Int32), f_X5_at V L x1 = some r0 → Wm X 2 (IF X E Z (mw E A)) Q 0 [(0, .ref (A 0)), (1, .int x1)] [] (V, L) := by
  intro x1 hf
  rw [f_X5_at] at hf
  refine r_iload_n C dX5_at_0 1 rfl rfl ?_
  refine r_aload_n C dX5_at_1 0 rfl rfl ?_
  refine g_RX5_81_0 C K dX5_at_2 ?_
  refine r_icmp_ge C (tgt := 17) dX5_at_5 rfl hf (fun hf => ?_) (fun hf => ?_)
  · refine r_iconst C dX5_at_17 ki_0 ?_
    exact ri_OR hret hf dX5_at_18 rfl
  · refine r_aload_n C dX5_at_8 0 rfl rfl ?_
    refine g_RX5_22_0 C K dX5_at_9 ?_
    refine r_iload_n C dX5_at_12 1 rfl rfl ?_
    refine s_bald C K (mw_a14 E A _ _) dX5_at_13 hf (fun hf => ?_)
    refine r_goto C (tgt := 18) dX5_at_14 rfl ?_
    exact ri_OR hret hf dX5_at_18 rfl
theorem t_X5_at (l : Launch) {E : EvT} {A : Nat → Nat} {V : Nat → Nat → Int32} {L : Nat → Int64} (x1 : Int32) {r0 : Int32} (hq : f_X5_at V L x1 = some r0) : KI l yX5_at (.code yX5_at cX5_at 2 (some .int) :: wA) rm_X5_at E (mw E A V L) (mw E A V L) [.ref (A 0), .int x1] r0 := by
  refine ent_I (own := RX5) (ty := .int) (lv0 := [(0, .ref (A 0)), (1, .int x1)]) (by decide) rfl rfl (Nat.le_of_ble_eq_true rfl) rfl (mw_fst _ _ _ _ _ _) ?_
  intro X Z Q hl C K hret
  exact w_X5_at_0 C K hret  x1 hq
set_option maxRecDepth 100000 in
theorem w_X5_isFigure_0 {X : XT} {E : EvT} {Z : Nat → Prop} {Q : State → Prop} {A : Nat → Nat} (C : Cx X (.code yX5_isFigure cX5_isFigure 3 (some .boolean)) cX5_isFigure 3 RX5 rm_X5_isFigure.frames rm_X5_isFigure.locals) (K : Ck X E Z) {r0 : Int32} {V : Nat → Nat → Int32} {L : Nat → Int64} (hret : RI X 3 cX5_isFigure (IF X E Z (mw E A)) Q .boolean r0 (V, L)) : ∀ (x1 : Int32) (x2 : Int32), f_X5_isFigure V L x1 x2 = some r0 → Wm X 3 (IF X E Z (mw E A)) Q 0 [(0, .ref (A 0)), (1, .int x1), (2, .int x2)] [] (V, L) := by
  intro x1 x2 hf
  rw [f_X5_isFigure] at hf
  refine r_aload_n C dX5_isFigure_0 0 rfl rfl ?_
  refine r_iload_n C dX5_isFigure_1 1 rfl rfl ?_
  refine bd1_e hf (fun r_1 hq hf => ?_)
  refine f_callI C K cal_RX5_85 ⟨rfl, rfl, Nat.le_of_ble_eq_true rfl, Nat.le_of_ble_eq_true rfl⟩ (t_X5_at _ x1 hq) (mw_o0 E A _ _) rfl (mw_fst _ _ _ _ _ _) rfl (rest := []) rfl (Nat.le_of_ble_eq_true rfl) dX5_isFigure_2 ?_
  refine r_bipush C dX5_isFigure_5 kb_48 ?_
  refine r_isub C dX5_isFigure_7 ?_
  refine r_iload_n C dX5_isFigure_8 2 rfl rfl ?_
  refine r_bipush C dX5_isFigure_9 kb_9 ?_
  refine r_callP C cas_RX5_77 ⟨rfl, rfl, Nat.le_of_ble_eq_true rfl, Nat.le_of_ble_eq_true rfl⟩ (t_X5_within _ (r_1 - (48 : Int32)) x2 (9 : Int32)) rfl (rest := []) rfl (Nat.le_of_ble_eq_true rfl) dX5_isFigure_11 ?_
  exact ri_OR hret hf dX5_isFigure_14 (isz_nar (z_X5_within _ _ _))
theorem t_X5_isFigure (l : Launch) {E : EvT} {A : Nat → Nat} {V : Nat → Nat → Int32} {L : Nat → Int64} (x1 : Int32) (x2 : Int32) {r0 : Int32} (hq : f_X5_isFigure V L x1 x2 = some r0) : KI l yX5_isFigure (.code yX5_isFigure cX5_isFigure 3 (some .boolean) :: wA) rm_X5_isFigure E (mw E A V L) (mw E A V L) [.ref (A 0), .int x1, .int x2] r0 := by
  refine ent_I (own := RX5) (ty := .boolean) (lv0 := [(0, .ref (A 0)), (1, .int x1), (2, .int x2)]) (by decide) rfl rfl (Nat.le_of_ble_eq_true rfl) rfl (mw_fst _ _ _ _ _ _) ?_
  intro X Z Q hl C K hret
  exact w_X5_isFigure_0 C K hret  x1 x2 hq
set_option maxRecDepth 100000 in
theorem w_X5_readChildren_39 {X : XT} {E : EvT} {Z : Nat → Prop} {Q : State → Prop} {A : Nat → Nat} (C : Cx X (.code yX5_readChildren cX5_readChildren 3 (some .int)) cX5_readChildren 3 RX5 rm_X5_readChildren.frames rm_X5_readChildren.locals) (K : Ck X E Z) {r0 : Int32} {V0 : Nat → Nat → Int32} {L0 : Nat → Int64} (hret : RI X 3 cX5_readChildren (IF X E Z (mw E A)) Q .int r0 (V0, L0)) : ∀ (V : Nat → Nat → Int32) (L : Nat → Int64) (x2 : Int32), f_X5_readChildren_39 V L x2 = some (r0, V0, L0) → Wm X 3 (IF X E Z (mw E A)) Q 39 [(0, .ref (A 0)), (2, .int x2)] [] (V, L) := by
  intro V L x2 hf
  rw [f_X5_readChildren_39] at hf
  refine r_aload_n C dX5_readChildren_39 0 rfl rfl ?_
  refine r_aload_n C dX5_readChildren_40 0 rfl rfl ?_
  refine g_RX5_89_0 C K dX5_readChildren_41 ?_
  refine r_iconst C dX5_readChildren_44 ki_1 ?_
  refine r_icmp_le C (tgt := 60) dX5_readChildren_45 rfl hf (fun hf => ?_) (fun hf => ?_)
  · refine r_iconst C dX5_readChildren_60 ki_0 ?_
    refine p_RX5_95_0 rfl C K dX5_readChildren_61 hf (fun V_1 hf => ?_)
    refine r_iload_n C dX5_readChildren_64 1 rfl rfl ?_
    exact ri_OW hret hf dX5_readChildren_65 rfl
  · refine r_iload_n C dX5_readChildren_48 1 rfl rfl ?_
    refine r_aload_n C dX5_readChildren_49 0 rfl rfl ?_
    refine g_RX5_81_0 C K dX5_readChildren_50 ?_
    refine r_icmp_ne C (tgt := 60) dX5_readChildren_53 rfl hf (fun hf => ?_) (fun hf => ?_)
    · refine r_iconst C dX5_readChildren_60 ki_0 ?_
      refine p_RX5_95_0 rfl C K dX5_readChildren_61 hf (fun V_2 hf => ?_)
      refine r_iload_n C dX5_readChildren_64 1 rfl rfl ?_
      exact ri_OW hret hf dX5_readChildren_65 rfl
    · refine r_iconst C dX5_readChildren_56 ki_1 ?_
      refine r_goto C (tgt := 61) dX5_readChildren_57 rfl ?_
      refine p_RX5_95_0 rfl C K dX5_readChildren_61 hf (fun V_3 hf => ?_)
      refine r_iload_n C dX5_readChildren_64 1 rfl rfl ?_
      exact ri_OW hret hf dX5_readChildren_65 rfl
set_option maxRecDepth 100000 in
theorem w_X5_readChildren_2 {X : XT} {E : EvT} {Z : Nat → Prop} {Q : State → Prop} {A : Nat → Nat} (C : Cx X (.code yX5_readChildren cX5_readChildren 3 (some .int)) cX5_readChildren 3 RX5 rm_X5_readChildren.frames rm_X5_readChildren.locals) (K : Ck X E Z) {r0 : Int32} {V0 : Nat → Nat → Int32} {L0 : Nat → Int64} (hret : RI X 3 cX5_readChildren (IF X E Z (mw E A)) Q .int r0 (V0, L0)) : ∀ (n : Nat) (V : Nat → Nat → Int32) (L : Nat → Int64) (x2 : Int32), f_X5_readChildren_2 n V L x2 = some (r0, V0, L0) → Wm X 3 (IF X E Z (mw E A)) Q 2 [(0, .ref (A 0)), (2, .int x2)] [] (V, L) := by
  intro n
  induction n with
  | zero =>
    intro V L x2 hf
    exact none_e hf
  | succ n ih =>
    intro V L x2 hf
    rw [f_X5_readChildren_2] at hf
    refine r_aload_n C dX5_readChildren_2 0 rfl rfl ?_
    refine g_RX5_89_0 C K dX5_readChildren_3 ?_
    refine r_bipush C dX5_readChildren_6 kb_8 ?_
    refine r_icmp_ge C (tgt := 39) dX5_readChildren_8 rfl hf (fun hf => ?_) (fun hf => ?_)
    · exact r_sub [0, 1] rfl (w_X5_readChildren_39 C K hret V L x2 hf)
    · refine r_aload_n C dX5_readChildren_11 0 rfl rfl ?_
      refine r_iload_n C dX5_readChildren_12 1 rfl rfl ?_
      refine bd1_e hf (fun r_1 hq hf => ?_)
      refine f_callI C K cal_RX5_85 ⟨rfl, rfl, Nat.le_of_ble_eq_true rfl, Nat.le_of_ble_eq_true rfl⟩ (t_X5_at _ x2 hq) (mw_o0 E A _ _) rfl (mw_fst _ _ _ _ _ _) rfl (rest := []) rfl (Nat.le_of_ble_eq_true rfl) dX5_readChildren_13 ?_
      refine r_callP C cas_RX5_92 ⟨rfl, rfl, Nat.le_of_ble_eq_true rfl, Nat.le_of_ble_eq_true rfl⟩ (t_X5_kindBy _ r_1) rfl (rest := []) rfl (Nat.le_of_ble_eq_true rfl) dX5_readChildren_16 ?_
      refine r_iconst C dX5_readChildren_19 ki_m1 ?_
      refine r_icmp_eq C (tgt := 39) dX5_readChildren_20 rfl hf (fun hf => ?_) (fun hf => ?_)
      · exact r_sub [0, 1] rfl (w_X5_readChildren_39 C K hret V L x2 hf)
      · refine r_aload_n C dX5_readChildren_23 0 rfl rfl ?_
        refine r_dup C dX5_readChildren_24 rfl ?_
        refine g_RX5_89_0 C K dX5_readChildren_25 ?_
        refine r_iconst C dX5_readChildren_28 ki_1 ?_
        refine r_iadd C dX5_readChildren_29 ?_
        refine p_RX5_89_0 C K dX5_readChildren_30 hf (fun V_2 hf => ?_)
        refine r_iinc C dX5_readChildren_33 1 rfl (kn_1 _) (Nat.le_of_ble_eq_true rfl) (lv2 := [(2, .int (x2 + 1)), (0, .ref (A 0))]) rfl ?_
        refine r_goto C (tgt := 2) dX5_readChildren_36 rfl ?_
        exact r_sub [1, 0] rfl (ih V_2 L (x2 + 1) hf)
set_option maxRecDepth 100000 in
theorem w_X5_readChildren_0 {X : XT} {E : EvT} {Z : Nat → Prop} {Q : State → Prop} {A : Nat → Nat} (C : Cx X (.code yX5_readChildren cX5_readChildren 3 (some .int)) cX5_readChildren 3 RX5 rm_X5_readChildren.frames rm_X5_readChildren.locals) (K : Ck X E Z) {r0 : Int32} {V0 : Nat → Nat → Int32} {L0 : Nat → Int64} (hret : RI X 3 cX5_readChildren (IF X E Z (mw E A)) Q .int r0 (V0, L0)) : ∀ (V : Nat → Nat → Int32) (L : Nat → Int64) (x1 : Int32), f_X5_readChildren V L x1 = some (r0, V0, L0) → Wm X 3 (IF X E Z (mw E A)) Q 0 [(0, .ref (A 0)), (1, .int x1)] [] (V, L) := by
  intro V L x1 hf
  rw [f_X5_readChildren] at hf
  refine r_iload_n C dX5_readChildren_0 1 rfl rfl ?_
  refine r_istore_n C dX5_readChildren_1 rfl (Nat.le_of_ble_eq_true rfl) (lv2 := [(2, .int x1), (0, .ref (A 0)), (1, .int x1)]) rfl ?_
  exact r_sub [1, 0] rfl (w_X5_readChildren_2 C K hret 20000 V L x1 hf)
theorem t_X5_readChildren (l : Launch) {E : EvT} {A : Nat → Nat} {V : Nat → Nat → Int32} {L : Nat → Int64} (x1 : Int32) {r0 : Int32} {V0 : Nat → Nat → Int32} {L0 : Nat → Int64} (hq : f_X5_readChildren V L x1 = some (r0, V0, L0)) : KI l yX5_readChildren (.code yX5_readChildren cX5_readChildren 3 (some .int) :: wA) rm_X5_readChildren E (mw E A V L) (mw E A V0 L0) [.ref (A 0), .int x1] r0 := by
  refine ent_I (own := RX5) (ty := .int) (lv0 := [(0, .ref (A 0)), (1, .int x1)]) (by decide) rfl rfl (Nat.le_of_ble_eq_true rfl) rfl (mw_fst _ _ _ _ _ _) ?_
  intro X Z Q hl C K hret
  exact w_X5_readChildren_0 C K hret V L x1 hq
set_option maxRecDepth 100000 in
theorem w_X5_read_17 {X : XT} {E : EvT} {Z : Nat → Prop} {Q : State → Prop} {A : Nat → Nat} (C : Cx X (.code yX5_read cX5_read 2 (some .int)) cX5_read 2 RX5 rm_X5_read.frames rm_X5_read.locals) (K : Ck X E Z) {r0 : Int32} {V0 : Nat → Nat → Int32} {L0 : Nat → Int64} (hret : RI X 2 cX5_read (IF X E Z (mw E A)) Q .int r0 (V0, L0)) : ∀ (n : Nat) (V : Nat → Nat → Int32) (L : Nat → Int64) (x1 : Int32), f_X5_read_17 n V L x1 = some (r0, V0, L0) → Wm X 2 (IF X E Z (mw E A)) Q 17 [(0, .ref (A 0)), (1, .int x1)] [] (V, L) := by
  intro n
  induction n with
  | zero =>
    intro V L x1 hf
    exact none_e hf
  | succ n ih =>
    intro V L x1 hf
    rw [f_X5_read_17] at hf
    refine r_aload_n C dX5_read_17 0 rfl rfl ?_
    refine g_RX5_99_0 C K dX5_read_18 ?_
    refine r_iconst C dX5_read_21 ki_3 ?_
    refine r_icmp_ge C (tgt := 122) dX5_read_22 rfl hf (fun hf => ?_) (fun hf => ?_)
    · refine r_iload_n C dX5_read_122 1 rfl rfl ?_
      exact ri_OW hret hf dX5_read_123 rfl
    · refine r_aload_n C dX5_read_25 0 rfl rfl ?_
      refine r_iload_n C dX5_read_26 1 rfl rfl ?_
      refine r_iconst C dX5_read_27 ki_0 ?_
      refine bd1_e hf (fun r_1 hq hf => ?_)
      refine f_callI C K cal_RX5_102 ⟨rfl, rfl, Nat.le_of_ble_eq_true rfl, Nat.le_of_ble_eq_true rfl⟩ (t_X5_isFigure _ x1 (0 : Int32) hq) (mw_o0 E A _ _) rfl (mw_fst _ _ _ _ _ _) rfl (rest := []) rfl (Nat.le_of_ble_eq_true rfl) dX5_read_28 ?_
      refine r_if_ne C (tgt := 36) dX5_read_31 rfl hf (fun hf => ?_) (fun hf => ?_)
      · refine r_aload_n C dX5_read_36 0 rfl rfl ?_
        refine r_iload_n C dX5_read_37 1 rfl rfl ?_
        refine r_iconst C dX5_read_38 ki_1 ?_
        refine r_iadd C dX5_read_39 ?_
        refine r_aload_n C dX5_read_40 0 rfl rfl ?_
        refine r_iload_n C dX5_read_41 1 rfl rfl ?_
        refine bd1_e hf (fun r_2 hq hf => ?_)
        refine f_callI C K cal_RX5_85 ⟨rfl, rfl, Nat.le_of_ble_eq_true rfl, Nat.le_of_ble_eq_true rfl⟩ (t_X5_at _ x1 hq) (mw_o0 E A _ _) rfl (mw_fst _ _ _ _ _ _) rfl (rest := [.int (x1 + (1 : Int32)), .ref (A 0)]) rfl (Nat.le_of_ble_eq_true rfl) dX5_read_42 ?_
        refine r_bipush C dX5_read_45 kb_48 ?_
        refine r_icmp_ne C (tgt := 54) dX5_read_47 rfl hf (fun hf => ?_) (fun hf => ?_)
        · refine r_iconst C dX5_read_54 ki_0 ?_
          refine bd1_e hf (fun r_3 hq hf => ?_)
          refine f_callI C K cal_RX5_102 ⟨rfl, rfl, Nat.le_of_ble_eq_true rfl, Nat.le_of_ble_eq_true rfl⟩ (t_X5_isFigure _ (x1 + (1 : Int32)) (0 : Int32) hq) (mw_o0 E A _ _) rfl (mw_fst _ _ _ _ _ _) rfl (rest := []) rfl (Nat.le_of_ble_eq_true rfl) dX5_read_55 ?_
          refine r_if_ne C (tgt := 65) dX5_read_58 rfl hf (fun hf => ?_) (fun hf => ?_)
          · refine r_aload_n C dX5_read_65 0 rfl rfl ?_
            refine r_dup C dX5_read_66 rfl ?_
            refine g_RX5_99_0 C K dX5_read_67 ?_
            refine r_iconst C dX5_read_70 ki_1 ?_
            refine r_iadd C dX5_read_71 ?_
            refine p_RX5_99_0 C K dX5_read_72 hf (fun V_4 hf => ?_)
            refine r_iinc C dX5_read_75 1 rfl (kn_2 _) (Nat.le_of_ble_eq_true rfl) (lv2 := [(1, .int (x1 + 2)), (0, .ref (A 0))]) rfl ?_
            refine r_aload_n C dX5_read_78 1 rfl rfl ?_
            refine r_iload_n C dX5_read_79 0 rfl rfl ?_
            refine bd1_e hf (fun r_5 hq hf => ?_)
            refine f_callI C K cal_RX5_85 ⟨rfl, rfl, Nat.le_of_ble_eq_true rfl, Nat.le_of_ble_eq_true rfl⟩ (t_X5_at _ (x1 + 2) hq) (mw_o0 E A _ _) rfl (mw_fst _ _ _ _ _ _) rfl (rest := []) rfl (Nat.le_of_ble_eq_true rfl) dX5_read_80 ?_
            refine r_bipush C dX5_read_83 kb_59 ?_
            refine r_icmp_ne C (tgt := 96) dX5_read_85 rfl hf (fun hf => ?_) (fun hf => ?_)
            · refine r_aload_n C dX5_read_96 1 rfl rfl ?_
              refine g_RX5_99_0 C K dX5_read_97 ?_
              refine r_iconst C dX5_read_100 ki_3 ?_
              refine r_icmp_eq C (tgt := 114) dX5_read_101 rfl hf (fun hf => ?_) (fun hf => ?_)
              · refine r_iload_n C dX5_read_114 0 rfl rfl ?_
                exact ri_OW hret hf dX5_read_115 rfl
              · refine r_aload_n C dX5_read_104 1 rfl rfl ?_
                refine r_iload_n C dX5_read_105 0 rfl rfl ?_
                refine bd1_e hf (fun r_6 hq hf => ?_)
                refine f_callI C K cal_RX5_85 ⟨rfl, rfl, Nat.le_of_ble_eq_true rfl, Nat.le_of_ble_eq_true rfl⟩ (t_X5_at _ (x1 + 2) hq) (mw_o0 E A _ _) rfl (mw_fst _ _ _ _ _ _) rfl (rest := []) rfl (Nat.le_of_ble_eq_true rfl) dX5_read_106 ?_
                refine r_bipush C dX5_read_109 kb_44 ?_
                refine r_icmp_eq C (tgt := 116) dX5_read_111 rfl hf (fun hf => ?_) (fun hf => ?_)
                · refine r_iinc C dX5_read_116 0 rfl (kn_1 _) (Nat.le_of_ble_eq_true rfl) (lv2 := [(1, .int ((x1 + 2) + 1)), (0, .ref (A 0))]) rfl ?_
                  refine r_goto C (tgt := 17) dX5_read_119 rfl ?_
                  exact r_sub [1, 0] rfl (ih V_4 L ((x1 + 2) + 1) hf)
                · refine r_iload_n C dX5_read_114 0 rfl rfl ?_
                  exact ri_OW hret hf dX5_read_115 rfl
            · refine r_aload_n C dX5_read_88 1 rfl rfl ?_
              refine r_iload_n C dX5_read_89 0 rfl rfl ?_
              refine r_iconst C dX5_read_90 ki_1 ?_
              refine r_iadd C dX5_read_91 ?_
              refine bd3_e hf (fun r_7 V_8 L_9 hq hf => ?_)
              refine f_callI C K cal_RX5_106 ⟨rfl, rfl, Nat.le_of_ble_eq_true rfl, Nat.le_of_ble_eq_true rfl⟩ (t_X5_readChildren _ ((x1 + 2) + (1 : Int32)) hq) (mw_o0 E A _ _) rfl (mw_fst _ _ _ _ _ _) rfl (rest := []) rfl (Nat.le_of_ble_eq_true rfl) dX5_read_92 ?_
              exact ri_OW hret hf dX5_read_95 rfl
          · refine r_iload_n C dX5_read_61 1 rfl rfl ?_
            refine r_iconst C dX5_read_62 ki_1 ?_
            refine r_iadd C dX5_read_63 ?_
            exact ri_OW hret hf dX5_read_64 rfl
        · refine r_iconst C dX5_read_50 ki_1 ?_
          refine r_goto C (tgt := 55) dX5_read_51 rfl ?_
          refine bd1_e hf (fun r_10 hq hf => ?_)
          refine f_callI C K cal_RX5_102 ⟨rfl, rfl, Nat.le_of_ble_eq_true rfl, Nat.le_of_ble_eq_true rfl⟩ (t_X5_isFigure _ (x1 + (1 : Int32)) (1 : Int32) hq) (mw_o0 E A _ _) rfl (mw_fst _ _ _ _ _ _) rfl (rest := []) rfl (Nat.le_of_ble_eq_true rfl) dX5_read_55 ?_
          refine r_if_ne C (tgt := 65) dX5_read_58 rfl hf (fun hf => ?_) (fun hf => ?_)
          · refine r_aload_n C dX5_read_65 0 rfl rfl ?_
            refine r_dup C dX5_read_66 rfl ?_
            refine g_RX5_99_0 C K dX5_read_67 ?_
            refine r_iconst C dX5_read_70 ki_1 ?_
            refine r_iadd C dX5_read_71 ?_
            refine p_RX5_99_0 C K dX5_read_72 hf (fun V_11 hf => ?_)
            refine r_iinc C dX5_read_75 1 rfl (kn_2 _) (Nat.le_of_ble_eq_true rfl) (lv2 := [(1, .int (x1 + 2)), (0, .ref (A 0))]) rfl ?_
            refine r_aload_n C dX5_read_78 1 rfl rfl ?_
            refine r_iload_n C dX5_read_79 0 rfl rfl ?_
            refine bd1_e hf (fun r_12 hq hf => ?_)
            refine f_callI C K cal_RX5_85 ⟨rfl, rfl, Nat.le_of_ble_eq_true rfl, Nat.le_of_ble_eq_true rfl⟩ (t_X5_at _ (x1 + 2) hq) (mw_o0 E A _ _) rfl (mw_fst _ _ _ _ _ _) rfl (rest := []) rfl (Nat.le_of_ble_eq_true rfl) dX5_read_80 ?_
            refine r_bipush C dX5_read_83 kb_59 ?_
            refine r_icmp_ne C (tgt := 96) dX5_read_85 rfl hf (fun hf => ?_) (fun hf => ?_)
            · refine r_aload_n C dX5_read_96 1 rfl rfl ?_
              refine g_RX5_99_0 C K dX5_read_97 ?_
              refine r_iconst C dX5_read_100 ki_3 ?_
              refine r_icmp_eq C (tgt := 114) dX5_read_101 rfl hf (fun hf => ?_) (fun hf => ?_)
              · refine r_iload_n C dX5_read_114 0 rfl rfl ?_
                exact ri_OW hret hf dX5_read_115 rfl
              · refine r_aload_n C dX5_read_104 1 rfl rfl ?_
                refine r_iload_n C dX5_read_105 0 rfl rfl ?_
                refine bd1_e hf (fun r_13 hq hf => ?_)
                refine f_callI C K cal_RX5_85 ⟨rfl, rfl, Nat.le_of_ble_eq_true rfl, Nat.le_of_ble_eq_true rfl⟩ (t_X5_at _ (x1 + 2) hq) (mw_o0 E A _ _) rfl (mw_fst _ _ _ _ _ _) rfl (rest := []) rfl (Nat.le_of_ble_eq_true rfl) dX5_read_106 ?_
                refine r_bipush C dX5_read_109 kb_44 ?_
                refine r_icmp_eq C (tgt := 116) dX5_read_111 rfl hf (fun hf => ?_) (fun hf => ?_)
                · refine r_iinc C dX5_read_116 0 rfl (kn_1 _) (Nat.le_of_ble_eq_true rfl) (lv2 := [(1, .int ((x1 + 2) + 1)), (0, .ref (A 0))]) rfl ?_
                  refine r_goto C (tgt := 17) dX5_read_119 rfl ?_
                  exact r_sub [1, 0] rfl (ih V_11 L ((x1 + 2) + 1) hf)
                · refine r_iload_n C dX5_read_114 0 rfl rfl ?_
                  exact ri_OW hret hf dX5_read_115 rfl
            · refine r_aload_n C dX5_read_88 1 rfl rfl ?_
              refine r_iload_n C dX5_read_89 0 rfl rfl ?_
              refine r_iconst C dX5_read_90 ki_1 ?_
              refine r_iadd C dX5_read_91 ?_
              refine bd3_e hf (fun r_14 V_15 L_16 hq hf => ?_)
              refine f_callI C K cal_RX5_106 ⟨rfl, rfl, Nat.le_of_ble_eq_true rfl, Nat.le_of_ble_eq_true rfl⟩ (t_X5_readChildren _ ((x1 + 2) + (1 : Int32)) hq) (mw_o0 E A _ _) rfl (mw_fst _ _ _ _ _ _) rfl (rest := []) rfl (Nat.le_of_ble_eq_true rfl) dX5_read_92 ?_
              exact ri_OW hret hf dX5_read_95 rfl
          · refine r_iload_n C dX5_read_61 1 rfl rfl ?_
            refine r_iconst C dX5_read_62 ki_1 ?_
            refine r_iadd C dX5_read_63 ?_
            exact ri_OW hret hf dX5_read_64 rfl
      · refine r_iload_n C dX5_read_34 1 rfl rfl ?_
        exact ri_OW hret hf dX5_read_35 rfl
set_option maxRecDepth 100000 in
theorem w_X5_read_0 {X : XT} {E : EvT} {Z : Nat → Prop} {Q : State → Prop} {A : Nat → Nat} (C : Cx X (.code yX5_read cX5_read 2 (some .int)) cX5_read 2 RX5 rm_X5_read.frames rm_X5_read.locals) (K : Ck X E Z) {r0 : Int32} {V0 : Nat → Nat → Int32} {L0 : Nat → Int64} (hret : RI X 2 cX5_read (IF X E Z (mw E A)) Q .int r0 (V0, L0)) : ∀ (V : Nat → Nat → Int32) (L : Nat → Int64), f_X5_read V L = some (r0, V0, L0) → Wm X 2 (IF X E Z (mw E A)) Q 0 [(0, .ref (A 0))] [] (V, L) := by
  intro V L hf
  rw [f_X5_read] at hf
  refine r_aload_n C dX5_read_0 0 rfl rfl ?_
  refine r_iconst C dX5_read_1 ki_0 ?_
  refine p_RX5_95_0 rfl C K dX5_read_2 hf (fun V_1 hf => ?_)
  refine r_aload_n C dX5_read_5 0 rfl rfl ?_
  refine r_iconst C dX5_read_6 ki_0 ?_
  refine p_RX5_99_0 C K dX5_read_7 hf (fun V_2 hf => ?_)
  refine r_aload_n C dX5_read_10 0 rfl rfl ?_
  refine r_iconst C dX5_read_11 ki_0 ?_
  refine p_RX5_89_0 C K dX5_read_12 hf (fun V_3 hf => ?_)
  refine r_iconst C dX5_read_15 ki_0 ?_
  refine r_istore_n C dX5_read_16 rfl (Nat.le_of_ble_eq_true rfl) (lv2 := [(1, .int (0 : Int32)), (0, .ref (A 0))]) rfl ?_
  exact r_sub [1, 0] rfl (w_X5_read_17 C K hret 20000 V_3 L (0 : Int32) hf)
theorem t_X5_read (l : Launch) {E : EvT} {A : Nat → Nat} {V : Nat → Nat → Int32} {L : Nat → Int64} {r0 : Int32} {V0 : Nat → Nat → Int32} {L0 : Nat → Int64} (hq : f_X5_read V L = some (r0, V0, L0)) : KI l yX5_read (.code yX5_read cX5_read 2 (some .int) :: wA) rm_X5_read E (mw E A V L) (mw E A V0 L0) [.ref (A 0)] r0 := by
  refine ent_I (own := RX5) (ty := .int) (lv0 := [(0, .ref (A 0))]) (by decide) rfl rfl (Nat.le_of_ble_eq_true rfl) rfl (mw_fst _ _ _ _ _ _) ?_
  intro X Z Q hl C K hret
  exact w_X5_read_0 C K hret V L  hq
set_option maxRecDepth 100000 in
theorem w_X5_fault_0 {X : XT} {E : EvT} {Z : Nat → Prop} {Q : State → Prop} {A : Nat → Nat} (C : Cx X (.code yX5_fault cX5_fault 1 (some .int)) cX5_fault 1 RX5 rm_X5_fault.frames rm_X5_fault.locals) (K : Ck X E Z) {r0 : Int32} {V0 : Nat → Nat → Int32} {L0 : Nat → Int64} (hret : RI X 1 cX5_fault (IF X E Z (mw E A)) Q .int r0 (V0, L0)) : ∀ (V : Nat → Nat → Int32) (L : Nat → Int64), f_X5_fault V L = some (r0, V0, L0) → Wm X 1 (IF X E Z (mw E A)) Q 0 [(0, .ref (A 0))] [] (V, L) := by
  intro V L hf
  rw [f_X5_fault] at hf
  refine r_aload_n C dX5_fault_0 0 rfl rfl ?_
  refine bd3_e hf (fun r_1 V_2 L_3 hq hf => ?_)
  refine f_callI C K cal_RX5_109 ⟨rfl, rfl, Nat.le_of_ble_eq_true rfl, Nat.le_of_ble_eq_true rfl⟩ (t_X5_read _ hq) (mw_o0 E A _ _) rfl (mw_fst _ _ _ _ _ _) rfl (rest := []) rfl (Nat.le_of_ble_eq_true rfl) dX5_fault_1 ?_
  exact ri_OW hret hf dX5_fault_4 rfl
theorem t_X5_fault (l : Launch) {E : EvT} {A : Nat → Nat} {V : Nat → Nat → Int32} {L : Nat → Int64} {r0 : Int32} {V0 : Nat → Nat → Int32} {L0 : Nat → Int64} (hq : f_X5_fault V L = some (r0, V0, L0)) : KI l yX5_fault (.code yX5_fault cX5_fault 1 (some .int) :: wA) rm_X5_fault E (mw E A V L) (mw E A V0 L0) [.ref (A 0)] r0 := by
  refine ent_I (own := RX5) (ty := .int) (lv0 := [(0, .ref (A 0))]) (by decide) rfl rfl (Nat.le_of_ble_eq_true rfl) rfl (mw_fst _ _ _ _ _ _) ?_
  intro X Z Q hl C K hret
  exact w_X5_fault_0 C K hret V L  hq
set_option maxRecDepth 100000 in
theorem w_X5_ring_83 {X : XT} {E : EvT} {Z : Nat → Prop} {Q : State → Prop} {A : Nat → Nat} (C : Cx X (.code yX5_ring cX5_ring 2 (some .int)) cX5_ring 2 RX5 rm_X5_ring.frames rm_X5_ring.locals) (K : Ck X E Z) {r0 : Int32} {V0 : Nat → Nat → Int32} {L0 : Nat → Int64} (hret : RI X 2 cX5_ring (IF X E Z (mw E A)) Q .int r0 (V0, L0)) : ∀ (n : Nat) (V : Nat → Nat → Int32) (L : Nat → Int64) (x1 : Int32), f_X5_ring_83 n V L x1 = some (r0, V0, L0) → Wm X 2 (IF X E Z (mw E A)) Q 83 [(0, .ref (A 0)), (1, .int x1)] [] (V, L) := by
  intro n
  induction n with
  | zero =>
    intro V L x1 hf
    exact none_e hf
  | succ n ih =>
    intro V L x1 hf
    rw [f_X5_ring_83] at hf
    refine r_iload_n C dX5_ring_83 1 rfl rfl ?_
    refine r_aload_n C dX5_ring_84 0 rfl rfl ?_
    refine g_RX5_116_0 C K dX5_ring_85 ?_
    refine r_icmp_ge C (tgt := 119) dX5_ring_88 rfl hf (fun hf => ?_) (fun hf => ?_)
    · refine r_aload_n C dX5_ring_119 0 rfl rfl ?_
      refine r_iconst C dX5_ring_120 ki_1 ?_
      refine r_aload_n C dX5_ring_121 0 rfl rfl ?_
      refine g_RX5_116_0 C K dX5_ring_122 ?_
      refine p_ishl C dX5_ring_125 ?_
      refine r_iconst C dX5_ring_126 ki_1 ?_
      refine r_isub C dX5_ring_127 ?_
      refine p_RX5_119_0 C K dX5_ring_128 hf (fun V_1 hf => ?_)
      refine r_aload_n C dX5_ring_131 0 rfl rfl ?_
      refine r_iconst C dX5_ring_132 ki_0 ?_
      refine p_RX5_122_0 C K dX5_ring_133 hf (fun V_2 hf => ?_)
      refine r_aload_n C dX5_ring_136 0 rfl rfl ?_
      refine r_iconst C dX5_ring_137 ki_0 ?_
      refine p_RX5_125_0 C K dX5_ring_138 hf (fun V_3 hf => ?_)
      refine r_aload_n C dX5_ring_141 0 rfl rfl ?_
      refine r_iconst C dX5_ring_142 ki_1 ?_
      refine p_RX5_128_0 rfl C K dX5_ring_143 hf (fun V_4 hf => ?_)
      refine r_aload_n C dX5_ring_146 0 rfl rfl ?_
      refine r_iconst C dX5_ring_147 ki_0 ?_
      refine p_RX5_131_0 C K dX5_ring_148 hf (fun V_5 hf => ?_)
      refine r_aload_n C dX5_ring_151 0 rfl rfl ?_
      refine r_dup C dX5_ring_152 rfl ?_
      refine g_RX5_134_0 C K dX5_ring_153 ?_
      refine r_iconst C dX5_ring_156 ki_1 ?_
      refine r_iadd C dX5_ring_157 ?_
      refine p_RX5_134_0 C K dX5_ring_158 hf (fun V_6 hf => ?_)
      refine r_aload_n C dX5_ring_161 0 rfl rfl ?_
      refine r_iconst C dX5_ring_162 ki_0 ?_
      refine p_RX5_137_0 C K dX5_ring_163 hf (fun V_7 hf => ?_)
      refine r_aload_n C dX5_ring_166 0 rfl rfl ?_
      refine r_iconst C dX5_ring_167 ki_0 ?_
      refine p_RX5_81_0 C K dX5_ring_168 hf (fun V_8 hf => ?_)
      refine r_aload_n C dX5_ring_171 0 rfl rfl ?_
      refine g_RX5_116_0 C K dX5_ring_172 ?_
      exact ri_OW hret hf dX5_ring_175 rfl
    · refine r_aload_n C dX5_ring_91 0 rfl rfl ?_
      refine g_RX5_13_0 C K dX5_ring_92 ?_
      refine r_iload_n C dX5_ring_95 1 rfl rfl ?_
      refine r_aload_n C dX5_ring_96 0 rfl rfl ?_
      refine g_RX5_22_0 C K dX5_ring_97 ?_
      refine r_iconst C dX5_ring_100 ki_3 ?_
      refine r_aload_n C dX5_ring_101 0 rfl rfl ?_
      refine g_RX5_113_0 C K dX5_ring_102 ?_
      refine r_imul C dX5_ring_105 ?_
      refine r_iload_n C dX5_ring_106 1 rfl rfl ?_
      refine r_iadd C dX5_ring_107 ?_
      refine s_bald C K (mw_a14 E A _ _) dX5_ring_108 hf (fun hf => ?_)
      refine r_callP C cas_RX5_92 ⟨rfl, rfl, Nat.le_of_ble_eq_true rfl, Nat.le_of_ble_eq_true rfl⟩ (t_X5_kindBy _ (V 14 (((3 : Int32) * (V 0 2)) + x1).toNatClampNeg)) rfl (rest := [.int x1, .ref (A 4)]) rfl (Nat.le_of_ble_eq_true rfl) dX5_ring_109 ?_
      refine s_iast C K (mw_a4 E A _ _) (fun z => mw_s4 E A _ _ _) dX5_ring_112 hf (fun V_9 hf => ?_)
      refine r_iinc C dX5_ring_113 1 rfl (kn_1 _) (Nat.le_of_ble_eq_true rfl) (lv2 := [(1, .int (x1 + 1)), (0, .ref (A 0))]) rfl ?_
      refine r_goto C (tgt := 83) dX5_ring_116 rfl ?_
      exact r_sub [1, 0] rfl (ih V_9 L (x1 + 1) hf)
set_option maxRecDepth 100000 in
theorem w_X5_ring_33 {X : XT} {E : EvT} {Z : Nat → Prop} {Q : State → Prop} {A : Nat → Nat} (C : Cx X (.code yX5_ring cX5_ring 2 (some .int)) cX5_ring 2 RX5 rm_X5_ring.frames rm_X5_ring.locals) (K : Ck X E Z) {r0 : Int32} {V0 : Nat → Nat → Int32} {L0 : Nat → Int64} (hret : RI X 2 cX5_ring (IF X E Z (mw E A)) Q .int r0 (V0, L0)) : ∀ (n : Nat) (V : Nat → Nat → Int32) (L : Nat → Int64) (x1 : Int32), f_X5_ring_33 n V L x1 = some (r0, V0, L0) → Wm X 2 (IF X E Z (mw E A)) Q 33 [(0, .ref (A 0)), (1, .int x1)] [] (V, L) := by
  intro n
  induction n with
  | zero =>
    intro V L x1 hf
    exact none_e hf
  | succ n ih =>
    intro V L x1 hf
    rw [f_X5_ring_33] at hf
    refine r_iload_n C dX5_ring_33 1 rfl rfl ?_
    refine r_aload_n C dX5_ring_34 0 rfl rfl ?_
    refine g_RX5_113_0 C K dX5_ring_35 ?_
    refine r_icmp_ge C (tgt := 81) dX5_ring_38 rfl hf (fun hf => ?_) (fun hf => ?_)
    · refine r_iconst C dX5_ring_81 ki_0 ?_
      refine r_istore_n C dX5_ring_82 rfl (Nat.le_of_ble_eq_true rfl) (lv2 := [(1, .int (0 : Int32)), (0, .ref (A 0))]) rfl ?_
      exact r_sub [1, 0] rfl (w_X5_ring_83 C K hret 20000 V L (0 : Int32) hf)
    · refine r_aload_n C dX5_ring_41 0 rfl rfl ?_
      refine g_RX5_7_0 C K dX5_ring_42 ?_
      refine r_iload_n C dX5_ring_45 1 rfl rfl ?_
      refine r_bipush C dX5_ring_46 kb_10 ?_
      refine r_aload_n C dX5_ring_48 0 rfl rfl ?_
      refine g_RX5_22_0 C K dX5_ring_49 ?_
      refine r_iconst C dX5_ring_52 ki_3 ?_
      refine r_iload_n C dX5_ring_53 1 rfl rfl ?_
      refine r_imul C dX5_ring_54 ?_
      refine s_bald C K (mw_a14 E A _ _) dX5_ring_55 hf (fun hf => ?_)
      refine r_bipush C dX5_ring_56 kb_48 ?_
      refine r_isub C dX5_ring_58 ?_
      refine r_imul C dX5_ring_59 ?_
      refine r_aload_n C dX5_ring_60 0 rfl rfl ?_
      refine g_RX5_22_0 C K dX5_ring_61 ?_
      refine r_iconst C dX5_ring_64 ki_3 ?_
      refine r_iload_n C dX5_ring_65 1 rfl rfl ?_
      refine r_imul C dX5_ring_66 ?_
      refine r_iconst C dX5_ring_67 ki_1 ?_
      refine r_iadd C dX5_ring_68 ?_
      refine s_bald C K (mw_a14 E A _ _) dX5_ring_69 hf (fun hf => ?_)
      refine r_iadd C dX5_ring_70 ?_
      refine r_bipush C dX5_ring_71 kb_48 ?_
      refine r_isub C dX5_ring_73 ?_
      refine s_iast C K (mw_a3 E A _ _) (fun z => mw_s3 E A _ _ _) dX5_ring_74 hf (fun V_1 hf => ?_)
      refine r_iinc C dX5_ring_75 1 rfl (kn_1 _) (Nat.le_of_ble_eq_true rfl) (lv2 := [(1, .int (x1 + 1)), (0, .ref (A 0))]) rfl ?_
      refine r_goto C (tgt := 33) dX5_ring_78 rfl ?_
      exact r_sub [1, 0] rfl (ih V_1 L (x1 + 1) hf)
set_option maxRecDepth 100000 in
theorem w_X5_ring_0 {X : XT} {E : EvT} {Z : Nat → Prop} {Q : State → Prop} {A : Nat → Nat} (C : Cx X (.code yX5_ring cX5_ring 2 (some .int)) cX5_ring 2 RX5 rm_X5_ring.frames rm_X5_ring.locals) (K : Ck X E Z) {r0 : Int32} {V0 : Nat → Nat → Int32} {L0 : Nat → Int64} (hret : RI X 2 cX5_ring (IF X E Z (mw E A)) Q .int r0 (V0, L0)) : ∀ (V : Nat → Nat → Int32) (L : Nat → Int64), f_X5_ring V L = some (r0, V0, L0) → Wm X 2 (IF X E Z (mw E A)) Q 0 [(0, .ref (A 0))] [] (V, L) := by
  intro V L hf
  rw [f_X5_ring] at hf
  refine r_aload_n C dX5_ring_0 0 rfl rfl ?_
  refine bd3_e hf (fun r_1 V_2 L_3 hq hf => ?_)
  refine f_callI C K cal_RX5_109 ⟨rfl, rfl, Nat.le_of_ble_eq_true rfl, Nat.le_of_ble_eq_true rfl⟩ (t_X5_read _ hq) (mw_o0 E A _ _) rfl (mw_fst _ _ _ _ _ _) rfl (rest := []) rfl (Nat.le_of_ble_eq_true rfl) dX5_ring_1 ?_
  refine r_pop C dX5_ring_4 rfl ?_
  refine r_aload_n C dX5_ring_5 0 rfl rfl ?_
  refine g_RX5_95_0 C K dX5_ring_6 ?_
  refine r_if_ne C (tgt := 15) dX5_ring_9 rfl hf (fun hf => ?_) (fun hf => ?_)
  · refine r_aload_n C dX5_ring_15 0 rfl rfl ?_
    refine r_aload_n C dX5_ring_16 0 rfl rfl ?_
    refine g_RX5_99_0 C K dX5_ring_17 ?_
    refine p_RX5_113_0 C K dX5_ring_20 hf (fun V_4 hf => ?_)
    refine r_aload_n C dX5_ring_23 0 rfl rfl ?_
    refine r_aload_n C dX5_ring_24 0 rfl rfl ?_
    refine g_RX5_89_0 C K dX5_ring_25 ?_
    refine p_RX5_116_0 C K dX5_ring_28 hf (fun V_5 hf => ?_)
    refine r_iconst C dX5_ring_31 ki_0 ?_
    refine r_istore_n C dX5_ring_32 rfl (Nat.le_of_ble_eq_true rfl) (lv2 := [(1, .int (0 : Int32)), (0, .ref (A 0))]) rfl ?_
    exact r_sub [1, 0] rfl (w_X5_ring_33 C K hret 20000 V_5 L_3 (0 : Int32) hf)
  · refine r_bipush C dX5_ring_12 kb_m103 ?_
    exact ri_OW hret hf dX5_ring_14 rfl
theorem t_X5_ring (l : Launch) {E : EvT} {A : Nat → Nat} {V : Nat → Nat → Int32} {L : Nat → Int64} {r0 : Int32} {V0 : Nat → Nat → Int32} {L0 : Nat → Int64} (hq : f_X5_ring V L = some (r0, V0, L0)) : KI l yX5_ring (.code yX5_ring cX5_ring 2 (some .int) :: wA) rm_X5_ring E (mw E A V L) (mw E A V0 L0) [.ref (A 0)] r0 := by
  refine ent_I (own := RX5) (ty := .int) (lv0 := [(0, .ref (A 0))]) (by decide) rfl rfl (Nat.le_of_ble_eq_true rfl) rfl (mw_fst _ _ _ _ _ _) ?_
  intro X Z Q hl C K hret
  exact w_X5_ring_0 C K hret V L  hq
set_option maxRecDepth 100000 in
theorem w_X5_isChild_0 {X : XT} {E : EvT} {Z : Nat → Prop} {Q : State → Prop} {A : Nat → Nat} (C : Cx X (.code yX5_isChild cX5_isChild 2 (some .boolean)) cX5_isChild 2 RX5 rm_X5_isChild.frames rm_X5_isChild.locals) (K : Ck X E Z) {r0 : Int32} {V : Nat → Nat → Int32} {L : Nat → Int64} (hret : RI X 2 cX5_isChild (IF X E Z (mw E A)) Q .boolean r0 (V, L)) : ∀ (x1 : Int32), f_X5_isChild V L x1 = r0 → Wm X 2 (IF X E Z (mw E A)) Q 0 [(0, .ref (A 0)), (1, .int x1)] [] (V, L) := by
  intro x1 hf
  rw [f_X5_isChild] at hf
  refine r_iload_n C dX5_isChild_0 1 rfl rfl ?_
  refine r_iconst C dX5_isChild_1 ki_0 ?_
  refine r_aload_n C dX5_isChild_2 0 rfl rfl ?_
  refine g_RX5_116_0 C K dX5_isChild_3 ?_
  refine r_iconst C dX5_isChild_6 ki_1 ?_
  refine r_isub C dX5_isChild_7 ?_
  refine r_callP C cas_RX5_77 ⟨rfl, rfl, Nat.le_of_ble_eq_true rfl, Nat.le_of_ble_eq_true rfl⟩ (t_X5_within _ x1 (0 : Int32) ((V 0 1) - (1 : Int32))) rfl (rest := []) rfl (Nat.le_of_ble_eq_true rfl) dX5_isChild_8 ?_
  exact ri_T hret hf dX5_isChild_11 (isz_nar (z_X5_within _ _ _))
theorem t_X5_isChild (l : Launch) {E : EvT} {A : Nat → Nat} {V : Nat → Nat → Int32} {L : Nat → Int64} (x1 : Int32) : KI l yX5_isChild (.code yX5_isChild cX5_isChild 2 (some .boolean) :: wA) rm_X5_isChild E (mw E A V L) (mw E A V L) [.ref (A 0), .int x1] (f_X5_isChild V L x1) := by
  refine ent_I (own := RX5) (ty := .boolean) (lv0 := [(0, .ref (A 0)), (1, .int x1)]) (by decide) rfl rfl (Nat.le_of_ble_eq_true rfl) rfl (mw_fst _ _ _ _ _ _) ?_
  intro X Z Q hl C K hret
  exact w_X5_isChild_0 C K hret  x1 rfl
set_option maxRecDepth 100000 in
theorem w_X5_isVerse_0 {X : XT} {E : EvT} {Z : Nat → Prop} {Q : State → Prop} {A : Nat → Nat} (C : Cx X (.code yX5_isVerse cX5_isVerse 2 (some .boolean)) cX5_isVerse 2 RX5 rm_X5_isVerse.frames rm_X5_isVerse.locals) (K : Ck X E Z) {r0 : Int32} {V : Nat → Nat → Int32} {L : Nat → Int64} (hret : RI X 2 cX5_isVerse (IF X E Z (mw E A)) Q .boolean r0 (V, L)) : ∀ (x1 : Int32), f_X5_isVerse V L x1 = r0 → Wm X 2 (IF X E Z (mw E A)) Q 0 [(0, .ref (A 0)), (1, .int x1)] [] (V, L) := by
  intro x1 hf
  rw [f_X5_isVerse] at hf
  refine r_iload_n C dX5_isVerse_0 1 rfl rfl ?_
  refine r_iconst C dX5_isVerse_1 ki_0 ?_
  refine r_aload_n C dX5_isVerse_2 0 rfl rfl ?_
  refine g_RX5_113_0 C K dX5_isVerse_3 ?_
  refine r_iconst C dX5_isVerse_6 ki_1 ?_
  refine r_isub C dX5_isVerse_7 ?_
  refine r_callP C cas_RX5_77 ⟨rfl, rfl, Nat.le_of_ble_eq_true rfl, Nat.le_of_ble_eq_true rfl⟩ (t_X5_within _ x1 (0 : Int32) ((V 0 2) - (1 : Int32))) rfl (rest := []) rfl (Nat.le_of_ble_eq_true rfl) dX5_isVerse_8 ?_
  exact ri_T hret hf dX5_isVerse_11 (isz_nar (z_X5_within _ _ _))
theorem t_X5_isVerse (l : Launch) {E : EvT} {A : Nat → Nat} {V : Nat → Nat → Int32} {L : Nat → Int64} (x1 : Int32) : KI l yX5_isVerse (.code yX5_isVerse cX5_isVerse 2 (some .boolean) :: wA) rm_X5_isVerse E (mw E A V L) (mw E A V L) [.ref (A 0), .int x1] (f_X5_isVerse V L x1) := by
  refine ent_I (own := RX5) (ty := .boolean) (lv0 := [(0, .ref (A 0)), (1, .int x1)]) (by decide) rfl rfl (Nat.le_of_ble_eq_true rfl) rfl (mw_fst _ _ _ _ _ _) ?_
  intro X Z Q hl C K hret
  exact w_X5_isVerse_0 C K hret  x1 rfl
set_option maxRecDepth 100000 in
theorem w_X5_takes_0 {X : XT} {Q : State → Prop} (C : Cx X (.code yX5_takes cX5_takes 1 (some .int)) cX5_takes 1 RX5 rm_X5_takes.frames rm_X5_takes.locals) {r0 : Int32} (hret : RI X 1 cX5_takes (IP X) Q .int r0 ()) : ∀ (x0 : Int32), f_X5_takes x0 = r0 → Wm X 1 (IP X) Q 0 [(0, .int x0)] [] () := by
  intro x0 hf
  rw [f_X5_takes] at hf
  refine r_iload_n C dX5_takes_0 0 rfl rfl ?_
  refine r_iconst C dX5_takes_1 ki_1 ?_
  refine r_icmp_ne C (tgt := 9) dX5_takes_2 rfl hf (fun hf => ?_) (fun hf => ?_)
  · refine r_iload_n C dX5_takes_9 0 rfl rfl ?_
    refine r_iconst C dX5_takes_10 ki_2 ?_
    refine r_icmp_ne C (tgt := 18) dX5_takes_11 rfl hf (fun hf => ?_) (fun hf => ?_)
    · refine r_iconst C dX5_takes_18 ki_1 ?_
      exact ri_T hret hf dX5_takes_19 rfl
    · refine r_iconst C dX5_takes_14 ki_0 ?_
      refine r_goto C (tgt := 19) dX5_takes_15 rfl ?_
      exact ri_T hret hf dX5_takes_19 rfl
  · refine r_iconst C dX5_takes_5 ki_2 ?_
    refine r_goto C (tgt := 19) dX5_takes_6 rfl ?_
    exact ri_T hret hf dX5_takes_19 rfl
theorem t_X5_takes (l : Launch) (x0 : Int32) : KP l yX5_takes (.code yX5_takes cX5_takes 1 (some .int) :: wA) rm_X5_takes [.int x0] (f_X5_takes x0) := by
  refine ent_P (own := RX5) (ty := .int) (lv0 := [(0, .int x0)]) (by decide) rfl rfl (Nat.le_of_ble_eq_true rfl) rfl ?_
  intro X Q hl C hret
  exact w_X5_takes_0 C hret x0 rfl
set_option maxRecDepth 100000 in
theorem w_X5_isSly_0 {X : XT} {E : EvT} {Z : Nat → Prop} {Q : State → Prop} {A : Nat → Nat} (C : Cx X (.code yX5_isSly cX5_isSly 2 (some .boolean)) cX5_isSly 2 RX5 rm_X5_isSly.frames rm_X5_isSly.locals) (K : Ck X E Z) {r0 : Int32} {V : Nat → Nat → Int32} {L : Nat → Int64} (hret : RI X 2 cX5_isSly (IF X E Z (mw E A)) Q .boolean r0 (V, L)) : ∀ (x1 : Int32), f_X5_isSly V L x1 = some r0 → Wm X 2 (IF X E Z (mw E A)) Q 0 [(0, .ref (A 0)), (1, .int x1)] [] (V, L) := by
  intro x1 hf
  rw [f_X5_isSly] at hf
  refine r_aload_n C dX5_isSly_0 0 rfl rfl ?_
  refine g_RX5_13_0 C K dX5_isSly_1 ?_
  refine r_iload_n C dX5_isSly_4 1 rfl rfl ?_
  refine s_iald C K (mw_a4 E A _ _) dX5_isSly_5 hf (fun hf => ?_)
  refine r_iconst C dX5_isSly_6 ki_3 ?_
  refine r_icmp_eq C (tgt := 20) dX5_isSly_7 rfl hf (fun hf => ?_) (fun hf => ?_)
  · refine r_iconst C dX5_isSly_20 ki_1 ?_
    refine r_goto C (tgt := 25) dX5_isSly_21 rfl ?_
    exact ri_OR hret hf dX5_isSly_25 rfl
  · refine r_aload_n C dX5_isSly_10 0 rfl rfl ?_
    refine g_RX5_13_0 C K dX5_isSly_11 ?_
    refine r_iload_n C dX5_isSly_14 1 rfl rfl ?_
    refine s_iald C K (mw_a4 E A _ _) dX5_isSly_15 hf (fun hf => ?_)
    refine r_iconst C dX5_isSly_16 ki_4 ?_
    refine r_icmp_ne C (tgt := 24) dX5_isSly_17 rfl hf (fun hf => ?_) (fun hf => ?_)
    · refine r_iconst C dX5_isSly_24 ki_0 ?_
      exact ri_OR hret hf dX5_isSly_25 rfl
    · refine r_iconst C dX5_isSly_20 ki_1 ?_
      refine r_goto C (tgt := 25) dX5_isSly_21 rfl ?_
      exact ri_OR hret hf dX5_isSly_25 rfl
theorem t_X5_isSly (l : Launch) {E : EvT} {A : Nat → Nat} {V : Nat → Nat → Int32} {L : Nat → Int64} (x1 : Int32) {r0 : Int32} (hq : f_X5_isSly V L x1 = some r0) : KI l yX5_isSly (.code yX5_isSly cX5_isSly 2 (some .boolean) :: wA) rm_X5_isSly E (mw E A V L) (mw E A V L) [.ref (A 0), .int x1] r0 := by
  refine ent_I (own := RX5) (ty := .boolean) (lv0 := [(0, .ref (A 0)), (1, .int x1)]) (by decide) rfl rfl (Nat.le_of_ble_eq_true rfl) rfl (mw_fst _ _ _ _ _ _) ?_
  intro X Z Q hl C K hret
  exact w_X5_isSly_0 C K hret  x1 hq
set_option maxRecDepth 100000 in
theorem w_X5_beatsIn_4 {X : XT} {E : EvT} {Z : Nat → Prop} {Q : State → Prop} {A : Nat → Nat} (C : Cx X (.code yX5_beatsIn cX5_beatsIn 3 (some .int)) cX5_beatsIn 3 RX5 rm_X5_beatsIn.frames rm_X5_beatsIn.locals) (K : Ck X E Z) {r0 : Int32} {V : Nat → Nat → Int32} {L : Nat → Int64} (hret : RI X 3 cX5_beatsIn (IF X E Z (mw E A)) Q .int r0 (V, L)) : ∀ (n : Nat) (x1 : Int32) (x2 : Int32), f_X5_beatsIn_4 V L n x1 x2 = some r0 → Wm X 3 (IF X E Z (mw E A)) Q 4 [(0, .ref (A 0)), (1, .int x1), (2, .int x2)] [] (V, L) := by
  intro n
  induction n with
  | zero =>
    intro x1 x2 hf
    exact none_e hf
  | succ n ih =>
    intro x1 x2 hf
    rw [f_X5_beatsIn_4] at hf
    refine r_iload_n C dX5_beatsIn_4 2 rfl rfl ?_
    refine r_aload_n C dX5_beatsIn_5 0 rfl rfl ?_
    refine g_RX5_116_0 C K dX5_beatsIn_6 ?_
    refine r_icmp_ge C (tgt := 45) dX5_beatsIn_9 rfl hf (fun hf => ?_) (fun hf => ?_)
    · refine r_iload_n C dX5_beatsIn_45 1 rfl rfl ?_
      exact ri_OR hret hf dX5_beatsIn_46 rfl
    · refine r_iload_n C dX5_beatsIn_12 1 rfl rfl ?_
      refine r_aload_n C dX5_beatsIn_13 0 rfl rfl ?_
      refine g_RX5_119_0 C K dX5_beatsIn_14 ?_
      refine r_iload_n C dX5_beatsIn_17 2 rfl rfl ?_
      refine r_callP C cas_RX5_140 ⟨rfl, rfl, Nat.le_of_ble_eq_true rfl, Nat.le_of_ble_eq_true rfl⟩ (t_X5_isIn _ (V 0 5) x2) rfl (rest := [.int x1]) rfl (Nat.le_of_ble_eq_true rfl) dX5_beatsIn_18 ?_
      refine r_if_eq C (tgt := 36) dX5_beatsIn_21 rfl hf (fun hf => ?_) (fun hf => ?_)
      · refine r_iconst C dX5_beatsIn_36 ki_0 ?_
        refine r_iadd C dX5_beatsIn_37 ?_
        refine r_istore_n C dX5_beatsIn_38 rfl (Nat.le_of_ble_eq_true rfl) (lv2 := [(1, .int (x1 + (0 : Int32))), (0, .ref (A 0)), (2, .int x2)]) rfl ?_
        refine r_iinc C dX5_beatsIn_39 2 rfl (kn_1 _) (Nat.le_of_ble_eq_true rfl) (lv2 := [(2, .int (x2 + 1)), (1, .int (x1 + (0 : Int32))), (0, .ref (A 0))]) rfl ?_
        refine r_goto C (tgt := 4) dX5_beatsIn_42 rfl ?_
        exact r_sub [2, 1, 0] rfl (ih (x1 + (0 : Int32)) (x2 + 1) hf)
      · refine r_aload_n C dX5_beatsIn_24 0 rfl rfl ?_
        refine g_RX5_13_0 C K dX5_beatsIn_25 ?_
        refine r_iload_n C dX5_beatsIn_28 2 rfl rfl ?_
        refine s_iald C K (mw_a4 E A _ _) dX5_beatsIn_29 hf (fun hf => ?_)
        refine r_callP C cas_RX5_143 ⟨rfl, rfl, Nat.le_of_ble_eq_true rfl, Nat.le_of_ble_eq_true rfl⟩ (t_X5_takes _ (V 4 x2.toNatClampNeg)) rfl (rest := [.int x1]) rfl (Nat.le_of_ble_eq_true rfl) dX5_beatsIn_30 ?_
        refine r_goto C (tgt := 37) dX5_beatsIn_33 rfl ?_
        refine r_iadd C dX5_beatsIn_37 ?_
        refine b_int hf (fun t_1 hf => ?_)
        refine r_istore_n C dX5_beatsIn_38 rfl (Nat.le_of_ble_eq_true rfl) (lv2 := [(1, .int t_1), (0, .ref (A 0)), (2, .int x2)]) rfl ?_
        refine r_iinc C dX5_beatsIn_39 2 rfl (kn_1 _) (Nat.le_of_ble_eq_true rfl) (lv2 := [(2, .int (x2 + 1)), (1, .int t_1), (0, .ref (A 0))]) rfl ?_
        refine r_goto C (tgt := 4) dX5_beatsIn_42 rfl ?_
        exact r_sub [2, 1, 0] rfl (ih t_1 (x2 + 1) hf)
set_option maxRecDepth 100000 in
theorem w_X5_beatsIn_0 {X : XT} {E : EvT} {Z : Nat → Prop} {Q : State → Prop} {A : Nat → Nat} (C : Cx X (.code yX5_beatsIn cX5_beatsIn 3 (some .int)) cX5_beatsIn 3 RX5 rm_X5_beatsIn.frames rm_X5_beatsIn.locals) (K : Ck X E Z) {r0 : Int32} {V : Nat → Nat → Int32} {L : Nat → Int64} (hret : RI X 3 cX5_beatsIn (IF X E Z (mw E A)) Q .int r0 (V, L)) : f_X5_beatsIn V L = some r0 → Wm X 3 (IF X E Z (mw E A)) Q 0 [(0, .ref (A 0))] [] (V, L) := by
  intro  hf
  rw [f_X5_beatsIn] at hf
  refine r_iconst C dX5_beatsIn_0 ki_0 ?_
  refine r_istore_n C dX5_beatsIn_1 rfl (Nat.le_of_ble_eq_true rfl) (lv2 := [(1, .int (0 : Int32)), (0, .ref (A 0))]) rfl ?_
  refine r_iconst C dX5_beatsIn_2 ki_0 ?_
  refine r_istore_n C dX5_beatsIn_3 rfl (Nat.le_of_ble_eq_true rfl) (lv2 := [(2, .int (0 : Int32)), (1, .int (0 : Int32)), (0, .ref (A 0))]) rfl ?_
  exact r_sub [2, 1, 0] rfl (w_X5_beatsIn_4 C K hret 20000 (0 : Int32) (0 : Int32) hf)
theorem t_X5_beatsIn (l : Launch) {E : EvT} {A : Nat → Nat} {V : Nat → Nat → Int32} {L : Nat → Int64} {r0 : Int32} (hq : f_X5_beatsIn V L = some r0) : KI l yX5_beatsIn (.code yX5_beatsIn cX5_beatsIn 3 (some .int) :: wA) rm_X5_beatsIn E (mw E A V L) (mw E A V L) [.ref (A 0)] r0 := by
  refine ent_I (own := RX5) (ty := .int) (lv0 := [(0, .ref (A 0))]) (by decide) rfl rfl (Nat.le_of_ble_eq_true rfl) rfl (mw_fst _ _ _ _ _ _) ?_
  intro X Z Q hl C K hret
  exact w_X5_beatsIn_0 C K hret   hq
set_option maxRecDepth 100000 in
theorem w_X5_isCount_0 {X : XT} {E : EvT} {Z : Nat → Prop} {Q : State → Prop} {A : Nat → Nat} (C : Cx X (.code yX5_isCount cX5_isCount 1 (some .boolean)) cX5_isCount 1 RX5 rm_X5_isCount.frames rm_X5_isCount.locals) (K : Ck X E Z) {r0 : Int32} {V : Nat → Nat → Int32} {L : Nat → Int64} (hret : RI X 1 cX5_isCount (IF X E Z (mw E A)) Q .boolean r0 (V, L)) : f_X5_isCount V L = some r0 → Wm X 1 (IF X E Z (mw E A)) Q 0 [(0, .ref (A 0))] [] (V, L) := by
  intro  hf
  rw [f_X5_isCount] at hf
  refine r_aload_n C dX5_isCount_0 0 rfl rfl ?_
  refine g_RX5_119_0 C K dX5_isCount_1 ?_
  refine bd1_e hf (fun r_1 hq hf => ?_)
  refine r_callP C cas_RX5_146 ⟨rfl, rfl, Nat.le_of_ble_eq_true rfl, Nat.le_of_ble_eq_true rfl⟩ (t_X5_size _ (V 0 5) hq) rfl (rest := []) rfl (Nat.le_of_ble_eq_true rfl) dX5_isCount_4 ?_
  refine r_iconst C dX5_isCount_7 ki_1 ?_
  refine r_icmp_le C (tgt := 22) dX5_isCount_8 rfl hf (fun hf => ?_) (fun hf => ?_)
  · refine r_iconst C dX5_isCount_22 ki_0 ?_
    exact ri_OR hret hf dX5_isCount_23 rfl
  · refine r_aload_n C dX5_isCount_11 0 rfl rfl ?_
    refine bd1_e hf (fun r_2 hq hf => ?_)
    refine f_callI C K cal_RX5_149 ⟨rfl, rfl, Nat.le_of_ble_eq_true rfl, Nat.le_of_ble_eq_true rfl⟩ (t_X5_beatsIn _ hq) (mw_o0 E A _ _) rfl (mw_fst _ _ _ _ _ _) rfl (rest := []) rfl (Nat.le_of_ble_eq_true rfl) dX5_isCount_12 ?_
    refine r_if_le C (tgt := 22) dX5_isCount_15 rfl hf (fun hf => ?_) (fun hf => ?_)
    · refine r_iconst C dX5_isCount_22 ki_0 ?_
      exact ri_OR hret hf dX5_isCount_23 rfl
    · refine r_iconst C dX5_isCount_18 ki_1 ?_
      refine r_goto C (tgt := 23) dX5_isCount_19 rfl ?_
      exact ri_OR hret hf dX5_isCount_23 rfl
theorem t_X5_isCount (l : Launch) {E : EvT} {A : Nat → Nat} {V : Nat → Nat → Int32} {L : Nat → Int64} {r0 : Int32} (hq : f_X5_isCount V L = some r0) : KI l yX5_isCount (.code yX5_isCount cX5_isCount 1 (some .boolean) :: wA) rm_X5_isCount E (mw E A V L) (mw E A V L) [.ref (A 0)] r0 := by
  refine ent_I (own := RX5) (ty := .boolean) (lv0 := [(0, .ref (A 0))]) (by decide) rfl rfl (Nat.le_of_ble_eq_true rfl) rfl (mw_fst _ _ _ _ _ _) ?_
  intro X Z Q hl C K hret
  exact w_X5_isCount_0 C K hret   hq
set_option maxRecDepth 100000 in
theorem w_X5_nextFrom_35 {X : XT} {E : EvT} {Z : Nat → Prop} {Q : State → Prop} {A : Nat → Nat} (C : Cx X (.code yX5_nextFrom cX5_nextFrom 5 (some .int)) cX5_nextFrom 5 RX5 rm_X5_nextFrom.frames rm_X5_nextFrom.locals) (K : Ck X E Z) {r0 : Int32} {V : Nat → Nat → Int32} {L : Nat → Int64} (hret : RI X 5 cX5_nextFrom (IF X E Z (mw E A)) Q .int r0 (V, L)) {k5 : Int32 → Int32 → Option Int32} {x2 : Int32} (hk5 : ∀ (x3 : Int32) (x4 : Int32), k5 x3 x4 = some r0 → Wm X 5 (IF X E Z (mw E A)) Q 5 [(0, .ref (A 0)), (2, .int x2), (3, .int x3), (4, .int x4)] [] (V, L)) : ∀ (x3 : Int32), f_X5_nextFrom_35 k5 V L x2 x3 = some r0 → Wm X 5 (IF X E Z (mw E A)) Q 35 [(0, .ref (A 0)), (2, .int x2), (3, .int x3)] [] (V, L) := by
  intro x3 hf
  rw [f_X5_nextFrom_35] at hf
  refine r_aload_n C dX5_nextFrom_35 0 rfl rfl ?_
  refine g_RX5_119_0 C K dX5_nextFrom_36 ?_
  refine r_iload_n C dX5_nextFrom_39 2 rfl rfl ?_
  refine r_callP C cas_RX5_140 ⟨rfl, rfl, Nat.le_of_ble_eq_true rfl, Nat.le_of_ble_eq_true rfl⟩ (t_X5_isIn _ (V 0 5) x3) rfl (rest := []) rfl (Nat.le_of_ble_eq_true rfl) dX5_nextFrom_40 ?_
  refine r_if_eq C (tgt := 64) dX5_nextFrom_43 rfl hf (fun hf => ?_) (fun hf => ?_)
  · refine r_iconst C dX5_nextFrom_64 ki_0 ?_
    refine r_istore C dX5_nextFrom_65 (Nat.le_of_ble_eq_true rfl) (lv2 := [(4, .int (0 : Int32)), (0, .ref (A 0)), (2, .int x2), (3, .int x3)]) rfl ?_
    refine r_goto C (tgt := 5) dX5_nextFrom_67 rfl ?_
    exact r_sub [1, 2, 3, 0] rfl (hk5 x3 (0 : Int32) hf)
  · refine r_iload_n C dX5_nextFrom_46 1 rfl rfl ?_
    refine r_if_eq C (tgt := 60) dX5_nextFrom_47 rfl hf (fun hf => ?_) (fun hf => ?_)
    · refine r_iconst C dX5_nextFrom_60 ki_1 ?_
      refine r_goto C (tgt := 65) dX5_nextFrom_61 rfl ?_
      refine r_istore C dX5_nextFrom_65 (Nat.le_of_ble_eq_true rfl) (lv2 := [(4, .int (1 : Int32)), (0, .ref (A 0)), (2, .int x2), (3, .int x3)]) rfl ?_
      refine r_goto C (tgt := 5) dX5_nextFrom_67 rfl ?_
      exact r_sub [1, 2, 3, 0] rfl (hk5 x3 (1 : Int32) hf)
    · refine r_aload_n C dX5_nextFrom_50 0 rfl rfl ?_
      refine g_RX5_13_0 C K dX5_nextFrom_51 ?_
      refine r_iload_n C dX5_nextFrom_54 2 rfl rfl ?_
      refine s_iald C K (mw_a4 E A _ _) dX5_nextFrom_55 hf (fun hf => ?_)
      refine r_iconst C dX5_nextFrom_56 ki_2 ?_
      refine r_icmp_eq C (tgt := 64) dX5_nextFrom_57 rfl hf (fun hf => ?_) (fun hf => ?_)
      · refine r_iconst C dX5_nextFrom_64 ki_0 ?_
        refine r_istore C dX5_nextFrom_65 (Nat.le_of_ble_eq_true rfl) (lv2 := [(4, .int (0 : Int32)), (0, .ref (A 0)), (2, .int x2), (3, .int x3)]) rfl ?_
        refine r_goto C (tgt := 5) dX5_nextFrom_67 rfl ?_
        exact r_sub [1, 2, 3, 0] rfl (hk5 x3 (0 : Int32) hf)
      · refine r_iconst C dX5_nextFrom_60 ki_1 ?_
        refine r_goto C (tgt := 65) dX5_nextFrom_61 rfl ?_
        refine r_istore C dX5_nextFrom_65 (Nat.le_of_ble_eq_true rfl) (lv2 := [(4, .int (1 : Int32)), (0, .ref (A 0)), (2, .int x2), (3, .int x3)]) rfl ?_
        refine r_goto C (tgt := 5) dX5_nextFrom_67 rfl ?_
        exact r_sub [1, 2, 3, 0] rfl (hk5 x3 (1 : Int32) hf)
set_option maxRecDepth 100000 in
theorem w_X5_nextFrom_5 {X : XT} {E : EvT} {Z : Nat → Prop} {Q : State → Prop} {A : Nat → Nat} (C : Cx X (.code yX5_nextFrom cX5_nextFrom 5 (some .int)) cX5_nextFrom 5 RX5 rm_X5_nextFrom.frames rm_X5_nextFrom.locals) (K : Ck X E Z) {r0 : Int32} {V : Nat → Nat → Int32} {L : Nat → Int64} (hret : RI X 5 cX5_nextFrom (IF X E Z (mw E A)) Q .int r0 (V, L)) (x2 : Int32) : ∀ (n : Nat) (x3 : Int32) (x4 : Int32), f_X5_nextFrom_5 V L x2 n x3 x4 = some r0 → Wm X 5 (IF X E Z (mw E A)) Q 5 [(0, .ref (A 0)), (2, .int x2), (3, .int x3), (4, .int x4)] [] (V, L) := by
  intro n
  induction n with
  | zero =>
    intro x3 x4 hf
    exact none_e hf
  | succ n ih =>
    intro x3 x4 hf
    rw [f_X5_nextFrom_5] at hf
    refine r_iload C dX5_nextFrom_5 3 rfl ?_
    refine r_if_ne C (tgt := 70) dX5_nextFrom_7 rfl hf (fun hf => ?_) (fun hf => ?_)
    · refine r_iload_n C dX5_nextFrom_70 2 rfl rfl ?_
      exact ri_OR hret hf dX5_nextFrom_71 rfl
    · refine r_iload_n C dX5_nextFrom_10 2 rfl rfl ?_
      refine r_aload_n C dX5_nextFrom_11 0 rfl rfl ?_
      refine g_RX5_128_0 C K dX5_nextFrom_12 ?_
      refine r_if_eq C (tgt := 22) dX5_nextFrom_15 rfl hf (fun hf => ?_) (fun hf => ?_)
      · refine r_aload_n C dX5_nextFrom_22 0 rfl rfl ?_
        refine g_RX5_116_0 C K dX5_nextFrom_23 ?_
        refine r_iconst C dX5_nextFrom_26 ki_1 ?_
        refine r_isub C dX5_nextFrom_27 ?_
        refine r_iadd C dX5_nextFrom_28 ?_
        refine r_aload_n C dX5_nextFrom_29 0 rfl rfl ?_
        refine g_RX5_116_0 C K dX5_nextFrom_30 ?_
        refine gd_ni hf (fun hne hf => ?_)
        refine p_irem C dX5_nextFrom_33 hne ?_
        refine b_int hf (fun t_1 hf => ?_)
        refine r_istore_n C dX5_nextFrom_34 rfl (Nat.le_of_ble_eq_true rfl) (lv2 := [(3, .int t_1), (0, .ref (A 0)), (2, .int x2), (4, .int x4)]) rfl ?_
        exact r_sub [1, 2, 0] rfl (w_X5_nextFrom_35 C K hret ih t_1 hf)
      · refine r_iconst C dX5_nextFrom_18 ki_1 ?_
        refine r_goto C (tgt := 28) dX5_nextFrom_19 rfl ?_
        refine r_iadd C dX5_nextFrom_28 ?_
        refine r_aload_n C dX5_nextFrom_29 0 rfl rfl ?_
        refine g_RX5_116_0 C K dX5_nextFrom_30 ?_
        refine gd_ni hf (fun hne hf => ?_)
        refine p_irem C dX5_nextFrom_33 hne ?_
        refine b_int hf (fun t_2 hf => ?_)
        refine r_istore_n C dX5_nextFrom_34 rfl (Nat.le_of_ble_eq_true rfl) (lv2 := [(3, .int t_2), (0, .ref (A 0)), (2, .int x2), (4, .int x4)]) rfl ?_
        exact r_sub [1, 2, 0] rfl (w_X5_nextFrom_35 C K hret ih t_2 hf)
set_option maxRecDepth 100000 in
theorem w_X5_nextFrom_0 {X : XT} {E : EvT} {Z : Nat → Prop} {Q : State → Prop} {A : Nat → Nat} (C : Cx X (.code yX5_nextFrom cX5_nextFrom 5 (some .int)) cX5_nextFrom 5 RX5 rm_X5_nextFrom.frames rm_X5_nextFrom.locals) (K : Ck X E Z) {r0 : Int32} {V : Nat → Nat → Int32} {L : Nat → Int64} (hret : RI X 5 cX5_nextFrom (IF X E Z (mw E A)) Q .int r0 (V, L)) : ∀ (x1 : Int32) (x2 : Int32), f_X5_nextFrom V L x1 x2 = some r0 → Wm X 5 (IF X E Z (mw E A)) Q 0 [(0, .ref (A 0)), (1, .int x1), (2, .int x2)] [] (V, L) := by
  intro x1 x2 hf
  rw [f_X5_nextFrom] at hf
  refine r_iload_n C dX5_nextFrom_0 1 rfl rfl ?_
  refine r_istore_n C dX5_nextFrom_1 rfl (Nat.le_of_ble_eq_true rfl) (lv2 := [(3, .int x1), (0, .ref (A 0)), (1, .int x1), (2, .int x2)]) rfl ?_
  refine r_iconst C dX5_nextFrom_2 ki_0 ?_
  refine r_istore C dX5_nextFrom_3 (Nat.le_of_ble_eq_true rfl) (lv2 := [(4, .int (0 : Int32)), (3, .int x1), (0, .ref (A 0)), (1, .int x1), (2, .int x2)]) rfl ?_
  exact r_sub [2, 4, 1, 0] rfl (w_X5_nextFrom_5 C K hret x2 20000 x1 (0 : Int32) hf)
theorem t_X5_nextFrom (l : Launch) {E : EvT} {A : Nat → Nat} {V : Nat → Nat → Int32} {L : Nat → Int64} (x1 : Int32) (x2 : Int32) {r0 : Int32} (hq : f_X5_nextFrom V L x1 x2 = some r0) : KI l yX5_nextFrom (.code yX5_nextFrom cX5_nextFrom 5 (some .int) :: wA) rm_X5_nextFrom E (mw E A V L) (mw E A V L) [.ref (A 0), .int x1, .int x2] r0 := by
  refine ent_I (own := RX5) (ty := .int) (lv0 := [(0, .ref (A 0)), (1, .int x1), (2, .int x2)]) (by decide) rfl rfl (Nat.le_of_ble_eq_true rfl) rfl (mw_fst _ _ _ _ _ _) ?_
  intro X Z Q hl C K hret
  exact w_X5_nextFrom_0 C K hret  x1 x2 hq
set_option maxRecDepth 100000 in
theorem w_X5_isOther_4 {X : XT} {E : EvT} {Z : Nat → Prop} {Q : State → Prop} {A : Nat → Nat} (C : Cx X (.code yX5_isOther cX5_isOther 4 (some .boolean)) cX5_isOther 4 RX5 rm_X5_isOther.frames rm_X5_isOther.locals) (K : Ck X E Z) {r0 : Int32} {V : Nat → Nat → Int32} {L : Nat → Int64} (hret : RI X 4 cX5_isOther (IF X E Z (mw E A)) Q .boolean r0 (V, L)) (x1 : Int32) : ∀ (n : Nat) (x2 : Int32) (x3 : Int32), f_X5_isOther_4 V L x1 n x2 x3 = some r0 → Wm X 4 (IF X E Z (mw E A)) Q 4 [(0, .ref (A 0)), (1, .int x1), (2, .int x2), (3, .int x3)] [] (V, L) := by
  intro n
  induction n with
  | zero =>
    intro x2 x3 hf
    exact none_e hf
  | succ n ih =>
    intro x2 x3 hf
    rw [f_X5_isOther_4] at hf
    refine r_iload_n C dX5_isOther_4 3 rfl rfl ?_
    refine r_aload_n C dX5_isOther_5 0 rfl rfl ?_
    refine g_RX5_116_0 C K dX5_isOther_6 ?_
    refine r_icmp_ge C (tgt := 54) dX5_isOther_9 rfl hf (fun hf => ?_) (fun hf => ?_)
    · refine r_iload_n C dX5_isOther_54 2 rfl rfl ?_
      refine gd_if hf (fun hz hf => ?_)
      exact ri_OR hret hf dX5_isOther_55 (isz_nar hz)
    · refine r_iload_n C dX5_isOther_12 2 rfl rfl ?_
      refine r_if_ne C (tgt := 42) dX5_isOther_13 rfl hf (fun hf => ?_) (fun hf => ?_)
      · refine r_iconst C dX5_isOther_42 ki_1 ?_
        refine r_goto C (tgt := 47) dX5_isOther_43 rfl ?_
        refine r_istore_n C dX5_isOther_47 rfl (Nat.le_of_ble_eq_true rfl) (lv2 := [(2, .int (1 : Int32)), (0, .ref (A 0)), (1, .int x1), (3, .int x3)]) rfl ?_
        refine r_iinc C dX5_isOther_48 3 rfl (kn_1 _) (Nat.le_of_ble_eq_true rfl) (lv2 := [(3, .int (x3 + 1)), (2, .int (1 : Int32)), (0, .ref (A 0)), (1, .int x1)]) rfl ?_
        refine r_goto C (tgt := 4) dX5_isOther_51 rfl ?_
        exact r_sub [2, 3, 1, 0] rfl (ih (1 : Int32) (x3 + 1) hf)
      · refine r_iload_n C dX5_isOther_16 3 rfl rfl ?_
        refine r_iload_n C dX5_isOther_17 1 rfl rfl ?_
        refine r_icmp_eq C (tgt := 46) dX5_isOther_18 rfl hf (fun hf => ?_) (fun hf => ?_)
        · refine r_iconst C dX5_isOther_46 ki_0 ?_
          refine r_istore_n C dX5_isOther_47 rfl (Nat.le_of_ble_eq_true rfl) (lv2 := [(2, .int (0 : Int32)), (0, .ref (A 0)), (1, .int x1), (3, .int x3)]) rfl ?_
          refine r_iinc C dX5_isOther_48 3 rfl (kn_1 _) (Nat.le_of_ble_eq_true rfl) (lv2 := [(3, .int (x3 + 1)), (2, .int (0 : Int32)), (0, .ref (A 0)), (1, .int x1)]) rfl ?_
          refine r_goto C (tgt := 4) dX5_isOther_51 rfl ?_
          exact r_sub [2, 3, 1, 0] rfl (ih (0 : Int32) (x3 + 1) hf)
        · refine r_aload_n C dX5_isOther_21 0 rfl rfl ?_
          refine g_RX5_119_0 C K dX5_isOther_22 ?_
          refine r_iload_n C dX5_isOther_25 3 rfl rfl ?_
          refine r_callP C cas_RX5_140 ⟨rfl, rfl, Nat.le_of_ble_eq_true rfl, Nat.le_of_ble_eq_true rfl⟩ (t_X5_isIn _ (V 0 5) x3) rfl (rest := []) rfl (Nat.le_of_ble_eq_true rfl) dX5_isOther_26 ?_
          refine r_if_eq C (tgt := 46) dX5_isOther_29 rfl hf (fun hf => ?_) (fun hf => ?_)
          · refine r_iconst C dX5_isOther_46 ki_0 ?_
            refine r_istore_n C dX5_isOther_47 rfl (Nat.le_of_ble_eq_true rfl) (lv2 := [(2, .int (0 : Int32)), (0, .ref (A 0)), (1, .int x1), (3, .int x3)]) rfl ?_
            refine r_iinc C dX5_isOther_48 3 rfl (kn_1 _) (Nat.le_of_ble_eq_true rfl) (lv2 := [(3, .int (x3 + 1)), (2, .int (0 : Int32)), (0, .ref (A 0)), (1, .int x1)]) rfl ?_
            refine r_goto C (tgt := 4) dX5_isOther_51 rfl ?_
            exact r_sub [2, 3, 1, 0] rfl (ih (0 : Int32) (x3 + 1) hf)
          · refine r_aload_n C dX5_isOther_32 0 rfl rfl ?_
            refine g_RX5_13_0 C K dX5_isOther_33 ?_
            refine r_iload_n C dX5_isOther_36 3 rfl rfl ?_
            refine s_iald C K (mw_a4 E A _ _) dX5_isOther_37 hf (fun hf => ?_)
            refine r_iconst C dX5_isOther_38 ki_2 ?_
            refine r_icmp_eq C (tgt := 46) dX5_isOther_39 rfl hf (fun hf => ?_) (fun hf => ?_)
            · refine r_iconst C dX5_isOther_46 ki_0 ?_
              refine r_istore_n C dX5_isOther_47 rfl (Nat.le_of_ble_eq_true rfl) (lv2 := [(2, .int (0 : Int32)), (0, .ref (A 0)), (1, .int x1), (3, .int x3)]) rfl ?_
              refine r_iinc C dX5_isOther_48 3 rfl (kn_1 _) (Nat.le_of_ble_eq_true rfl) (lv2 := [(3, .int (x3 + 1)), (2, .int (0 : Int32)), (0, .ref (A 0)), (1, .int x1)]) rfl ?_
              refine r_goto C (tgt := 4) dX5_isOther_51 rfl ?_
              exact r_sub [2, 3, 1, 0] rfl (ih (0 : Int32) (x3 + 1) hf)
            · refine r_iconst C dX5_isOther_42 ki_1 ?_
              refine r_goto C (tgt := 47) dX5_isOther_43 rfl ?_
              refine r_istore_n C dX5_isOther_47 rfl (Nat.le_of_ble_eq_true rfl) (lv2 := [(2, .int (1 : Int32)), (0, .ref (A 0)), (1, .int x1), (3, .int x3)]) rfl ?_
              refine r_iinc C dX5_isOther_48 3 rfl (kn_1 _) (Nat.le_of_ble_eq_true rfl) (lv2 := [(3, .int (x3 + 1)), (2, .int (1 : Int32)), (0, .ref (A 0)), (1, .int x1)]) rfl ?_
              refine r_goto C (tgt := 4) dX5_isOther_51 rfl ?_
              exact r_sub [2, 3, 1, 0] rfl (ih (1 : Int32) (x3 + 1) hf)
set_option maxRecDepth 100000 in
theorem w_X5_isOther_0 {X : XT} {E : EvT} {Z : Nat → Prop} {Q : State → Prop} {A : Nat → Nat} (C : Cx X (.code yX5_isOther cX5_isOther 4 (some .boolean)) cX5_isOther 4 RX5 rm_X5_isOther.frames rm_X5_isOther.locals) (K : Ck X E Z) {r0 : Int32} {V : Nat → Nat → Int32} {L : Nat → Int64} (hret : RI X 4 cX5_isOther (IF X E Z (mw E A)) Q .boolean r0 (V, L)) : ∀ (x1 : Int32), f_X5_isOther V L x1 = some r0 → Wm X 4 (IF X E Z (mw E A)) Q 0 [(0, .ref (A 0)), (1, .int x1)] [] (V, L) := by
  intro x1 hf
  rw [f_X5_isOther] at hf
  refine r_iconst C dX5_isOther_0 ki_0 ?_
  refine r_istore_n C dX5_isOther_1 rfl (Nat.le_of_ble_eq_true rfl) (lv2 := [(2, .int (0 : Int32)), (0, .ref (A 0)), (1, .int x1)]) rfl ?_
  refine r_iconst C dX5_isOther_2 ki_0 ?_
  refine r_istore_n C dX5_isOther_3 rfl (Nat.le_of_ble_eq_true rfl) (lv2 := [(3, .int (0 : Int32)), (2, .int (0 : Int32)), (0, .ref (A 0)), (1, .int x1)]) rfl ?_
  exact r_sub [2, 3, 1, 0] rfl (w_X5_isOther_4 C K hret x1 20000 (0 : Int32) (0 : Int32) hf)
theorem t_X5_isOther (l : Launch) {E : EvT} {A : Nat → Nat} {V : Nat → Nat → Int32} {L : Nat → Int64} (x1 : Int32) {r0 : Int32} (hq : f_X5_isOther V L x1 = some r0) : KI l yX5_isOther (.code yX5_isOther cX5_isOther 4 (some .boolean) :: wA) rm_X5_isOther E (mw E A V L) (mw E A V L) [.ref (A 0), .int x1] r0 := by
  refine ent_I (own := RX5) (ty := .boolean) (lv0 := [(0, .ref (A 0)), (1, .int x1)]) (by decide) rfl rfl (Nat.le_of_ble_eq_true rfl) rfl (mw_fst _ _ _ _ _ _) ?_
  intro X Z Q hl C K hret
  exact w_X5_isOther_0 C K hret  x1 hq
set_option maxRecDepth 100000 in
theorem w_X5_goCount_70 {X : XT} {E : EvT} {Z : Nat → Prop} {Q : State → Prop} {A : Nat → Nat} (C : Cx X (.code yX5_goCount cX5_goCount 4 (some .int)) cX5_goCount 4 RX5 rm_X5_goCount.frames rm_X5_goCount.locals) (K : Ck X E Z) {r0 : Int32} {V0 : Nat → Nat → Int32} {L0 : Nat → Int64} (hret : RI X 4 cX5_goCount (IF X E Z (mw E A)) Q .int r0 (V0, L0)) {k54 : Int32 → Int32 → Option (Int32 × (Nat → Nat → Int32) × (Nat → Int64))} {V : Nat → Nat → Int32} {L : Nat → Int64} (hk54 : ∀ (x2 : Int32) (x3 : Int32), k54 x2 x3 = some (r0, V0, L0) → Wm X 4 (IF X E Z (mw E A)) Q 54 [(0, .ref (A 0)), (2, .int x2), (3, .int x3)] [] (V, L)) : ∀ (x2 : Int32) (x3 : Int32), f_X5_goCount_70 k54 V L x2 x3 = some (r0, V0, L0) → Wm X 4 (IF X E Z (mw E A)) Q 70 [(0, .ref (A 0)), (2, .int x2), (3, .int x3)] [] (V, L) := by
  intro x2 x3 hf
  rw [f_X5_goCount_70] at hf
  refine r_aload_n C dX5_goCount_70 0 rfl rfl ?_
  refine r_iload_n C dX5_goCount_71 2 rfl rfl ?_
  refine r_iconst C dX5_goCount_72 ki_0 ?_
  refine bd1_e hf (fun r_1 hq hf => ?_)
  refine f_callI C K cal_RX5_152 ⟨rfl, rfl, Nat.le_of_ble_eq_true rfl, Nat.le_of_ble_eq_true rfl⟩ (t_X5_nextFrom _ x3 (0 : Int32) hq) (mw_o0 E A _ _) rfl (mw_fst _ _ _ _ _ _) rfl (rest := []) rfl (Nat.le_of_ble_eq_true rfl) dX5_goCount_73 ?_
  refine r_istore_n C dX5_goCount_76 rfl (Nat.le_of_ble_eq_true rfl) (lv2 := [(3, .int r_1), (0, .ref (A 0)), (2, .int x2)]) rfl ?_
  refine r_iload_n C dX5_goCount_77 2 rfl rfl ?_
  refine r_aload_n C dX5_goCount_78 1 rfl rfl ?_
  refine g_RX5_13_0 C K dX5_goCount_79 ?_
  refine r_iload_n C dX5_goCount_82 0 rfl rfl ?_
  refine s_iald C K (mw_a4 E A _ _) dX5_goCount_83 hf (fun hf => ?_)
  refine r_callP C cas_RX5_143 ⟨rfl, rfl, Nat.le_of_ble_eq_true rfl, Nat.le_of_ble_eq_true rfl⟩ (t_X5_takes _ (V 4 r_1.toNatClampNeg)) rfl (rest := [.int x2]) rfl (Nat.le_of_ble_eq_true rfl) dX5_goCount_84 ?_
  refine r_isub C dX5_goCount_87 ?_
  refine b_int hf (fun t_2 hf => ?_)
  refine r_istore_n C dX5_goCount_88 rfl (Nat.le_of_ble_eq_true rfl) (lv2 := [(2, .int t_2), (3, .int r_1), (0, .ref (A 0))]) rfl ?_
  refine r_goto C (tgt := 54) dX5_goCount_89 rfl ?_
  exact r_sub [2, 0, 1] rfl (hk54 t_2 r_1 hf)
set_option maxRecDepth 100000 in
theorem w_X5_goCount_164 {X : XT} {E : EvT} {Z : Nat → Prop} {Q : State → Prop} {A : Nat → Nat} (C : Cx X (.code yX5_goCount cX5_goCount 4 (some .int)) cX5_goCount 4 RX5 rm_X5_goCount.frames rm_X5_goCount.locals) (K : Ck X E Z) {r0 : Int32} {V0 : Nat → Nat → Int32} {L0 : Nat → Int64} (hret : RI X 4 cX5_goCount (IF X E Z (mw E A)) Q .int r0 (V0, L0)) {k92 : (Nat → Nat → Int32) → (Nat → Int64) → Int32 → Option (Int32 × (Nat → Nat → Int32) × (Nat → Int64))} (hk92 : ∀ (V : Nat → Nat → Int32) (L : Nat → Int64) (x3 : Int32), k92 V L x3 = some (r0, V0, L0) → Wm X 4 (IF X E Z (mw E A)) Q 92 [(0, .ref (A 0)), (3, .int x3)] [] (V, L)) : ∀ (V : Nat → Nat → Int32) (L : Nat → Int64) (x3 : Int32), f_X5_goCount_164 k92 V L x3 = some (r0, V0, L0) → Wm X 4 (IF X E Z (mw E A)) Q 164 [(0, .ref (A 0)), (3, .int x3)] [] (V, L) := by
  intro V L x3 hf
  rw [f_X5_goCount_164] at hf
  refine r_aload_n C dX5_goCount_164 0 rfl rfl ?_
  refine r_iload_n C dX5_goCount_165 1 rfl rfl ?_
  refine r_iconst C dX5_goCount_166 ki_1 ?_
  refine bd1_e hf (fun r_1 hq hf => ?_)
  refine f_callI C K cal_RX5_152 ⟨rfl, rfl, Nat.le_of_ble_eq_true rfl, Nat.le_of_ble_eq_true rfl⟩ (t_X5_nextFrom _ x3 (1 : Int32) hq) (mw_o0 E A _ _) rfl (mw_fst _ _ _ _ _ _) rfl (rest := []) rfl (Nat.le_of_ble_eq_true rfl) dX5_goCount_167 ?_
  refine r_istore_n C dX5_goCount_170 rfl (Nat.le_of_ble_eq_true rfl) (lv2 := [(3, .int r_1), (0, .ref (A 0))]) rfl ?_
  refine r_goto C (tgt := 92) dX5_goCount_171 rfl ?_
  exact r_sub [1, 0] rfl (hk92 V L r_1 hf)
set_option maxRecDepth 100000 in
theorem w_X5_goCount_174 {X : XT} {E : EvT} {Z : Nat → Prop} {Q : State → Prop} {A : Nat → Nat} (C : Cx X (.code yX5_goCount cX5_goCount 4 (some .int)) cX5_goCount 4 RX5 rm_X5_goCount.frames rm_X5_goCount.locals) (K : Ck X E Z) {r0 : Int32} {V0 : Nat → Nat → Int32} {L0 : Nat → Int64} (hret : RI X 4 cX5_goCount (IF X E Z (mw E A)) Q .int r0 (V0, L0)) : ∀ (V : Nat → Nat → Int32) (L : Nat → Int64) (x3 : Int32), f_X5_goCount_174 V L x3 = some (r0, V0, L0) → Wm X 4 (IF X E Z (mw E A)) Q 174 [(0, .ref (A 0)), (3, .int x3)] [] (V, L) := by
  intro V L x3 hf
  rw [f_X5_goCount_174] at hf
  refine r_aload_n C dX5_goCount_174 0 rfl rfl ?_
  refine r_dup C dX5_goCount_175 rfl ?_
  refine g_RX5_119_0 C K dX5_goCount_176 ?_
  refine r_iconst C dX5_goCount_179 ki_1 ?_
  refine r_iload_n C dX5_goCount_180 1 rfl rfl ?_
  refine p_ishl C dX5_goCount_181 ?_
  refine r_iconst C dX5_goCount_182 ki_m1 ?_
  refine r_ixor C dX5_goCount_183 ?_
  refine r_iand C dX5_goCount_184 ?_
  refine p_RX5_119_0 C K dX5_goCount_185 hf (fun V_1 hf => ?_)
  refine r_aload_n C dX5_goCount_188 0 rfl rfl ?_
  refine r_aload_n C dX5_goCount_189 0 rfl rfl ?_
  refine r_iload_n C dX5_goCount_190 1 rfl rfl ?_
  refine r_iconst C dX5_goCount_191 ki_0 ?_
  refine bd1_e hf (fun r_2 hq hf => ?_)
  refine f_callI C K cal_RX5_152 ⟨rfl, rfl, Nat.le_of_ble_eq_true rfl, Nat.le_of_ble_eq_true rfl⟩ (t_X5_nextFrom _ x3 (0 : Int32) hq) (mw_o0 E A _ _) rfl (mw_fst _ _ _ _ _ _) rfl (rest := [.ref (A 0)]) rfl (Nat.le_of_ble_eq_true rfl) dX5_goCount_192 ?_
  refine p_RX5_125_0 C K dX5_goCount_195 hf (fun V_3 hf => ?_)
  refine r_iload_n C dX5_goCount_198 1 rfl rfl ?_
  exact ri_OW hret hf dX5_goCount_199 rfl
set_option maxRecDepth 100000 in
theorem w_X5_goCount_92 {X : XT} {E : EvT} {Z : Nat → Prop} {Q : State → Prop} {A : Nat → Nat} (C : Cx X (.code yX5_goCount cX5_goCount 4 (some .int)) cX5_goCount 4 RX5 rm_X5_goCount.frames rm_X5_goCount.locals) (K : Ck X E Z) {r0 : Int32} {V0 : Nat → Nat → Int32} {L0 : Nat → Int64} (hret : RI X 4 cX5_goCount (IF X E Z (mw E A)) Q .int r0 (V0, L0)) : ∀ (n : Nat) (V : Nat → Nat → Int32) (L : Nat → Int64) (x3 : Int32), f_X5_goCount_92 n V L x3 = some (r0, V0, L0) → Wm X 4 (IF X E Z (mw E A)) Q 92 [(0, .ref (A 0)), (3, .int x3)] [] (V, L) := by
  intro n
  induction n with
  | zero =>
    intro V L x3 hf
    exact none_e hf
  | succ n ih =>
    intro V L x3 hf
    rw [f_X5_goCount_92] at hf
    refine r_aload_n C dX5_goCount_92 0 rfl rfl ?_
    refine r_iload_n C dX5_goCount_93 1 rfl rfl ?_
    refine bd1_e hf (fun r_1 hq hf => ?_)
    refine f_callI C K cal_RX5_156 ⟨rfl, rfl, Nat.le_of_ble_eq_true rfl, Nat.le_of_ble_eq_true rfl⟩ (t_X5_isSly _ x3 hq) (mw_o0 E A _ _) rfl (mw_fst _ _ _ _ _ _) rfl (rest := []) rfl (Nat.le_of_ble_eq_true rfl) dX5_goCount_94 ?_
    refine r_if_eq C (tgt := 174) dX5_goCount_97 rfl hf (fun hf => ?_) (fun hf => ?_)
    · exact r_sub [0, 1] rfl (w_X5_goCount_174 C K hret V L x3 hf)
    · refine r_aload_n C dX5_goCount_100 0 rfl rfl ?_
      refine g_RX5_122_0 C K dX5_goCount_101 ?_
      refine r_iload_n C dX5_goCount_104 1 rfl rfl ?_
      refine r_callP C cas_RX5_140 ⟨rfl, rfl, Nat.le_of_ble_eq_true rfl, Nat.le_of_ble_eq_true rfl⟩ (t_X5_isIn _ (V 0 6) x3) rfl (rest := []) rfl (Nat.le_of_ble_eq_true rfl) dX5_goCount_105 ?_
      refine r_if_ne C (tgt := 174) dX5_goCount_108 rfl hf (fun hf => ?_) (fun hf => ?_)
      · exact r_sub [0, 1] rfl (w_X5_goCount_174 C K hret V L x3 hf)
      · refine r_aload_n C dX5_goCount_111 0 rfl rfl ?_
        refine r_iload_n C dX5_goCount_112 1 rfl rfl ?_
        refine bd1_e hf (fun r_2 hq hf => ?_)
        refine f_callI C K cal_RX5_160 ⟨rfl, rfl, Nat.le_of_ble_eq_true rfl, Nat.le_of_ble_eq_true rfl⟩ (t_X5_isOther _ x3 hq) (mw_o0 E A _ _) rfl (mw_fst _ _ _ _ _ _) rfl (rest := []) rfl (Nat.le_of_ble_eq_true rfl) dX5_goCount_113 ?_
        refine r_if_eq C (tgt := 174) dX5_goCount_116 rfl hf (fun hf => ?_) (fun hf => ?_)
        · exact r_sub [0, 1] rfl (w_X5_goCount_174 C K hret V L x3 hf)
        · refine r_aload_n C dX5_goCount_119 0 rfl rfl ?_
          refine r_dup C dX5_goCount_120 rfl ?_
          refine g_RX5_122_0 C K dX5_goCount_121 ?_
          refine r_iconst C dX5_goCount_124 ki_1 ?_
          refine r_iload_n C dX5_goCount_125 1 rfl rfl ?_
          refine p_ishl C dX5_goCount_126 ?_
          refine r_ior C dX5_goCount_127 ?_
          refine p_RX5_122_0 C K dX5_goCount_128 hf (fun V_3 hf => ?_)
          refine r_aload_n C dX5_goCount_131 0 rfl rfl ?_
          refine r_aload_n C dX5_goCount_132 0 rfl rfl ?_
          refine g_RX5_13_0 C K dX5_goCount_133 ?_
          refine r_iload_n C dX5_goCount_136 1 rfl rfl ?_
          refine s_iald C K (mw_a4 E A _ _) dX5_goCount_137 hf (fun hf => ?_)
          refine r_iconst C dX5_goCount_138 ki_4 ?_
          refine r_icmp_ne C (tgt := 157) dX5_goCount_139 rfl hf (fun hf => ?_) (fun hf => ?_)
          · refine r_aload_n C dX5_goCount_157 0 rfl rfl ?_
            refine g_RX5_128_0 C K dX5_goCount_158 ?_
            refine gd_if hf (fun hz hf => ?_)
            refine p_RX5_128_0 hz C K dX5_goCount_161 hf (fun V_4 hf => ?_)
            exact r_sub [0, 1] rfl (w_X5_goCount_164 C K hret ih V_4 L x3 hf)
          · refine r_aload_n C dX5_goCount_142 0 rfl rfl ?_
            refine g_RX5_128_0 C K dX5_goCount_143 ?_
            refine r_if_ne C (tgt := 153) dX5_goCount_146 rfl hf (fun hf => ?_) (fun hf => ?_)
            · refine r_iconst C dX5_goCount_153 ki_0 ?_
              refine r_goto C (tgt := 161) dX5_goCount_154 rfl ?_
              refine p_RX5_128_0 rfl C K dX5_goCount_161 hf (fun V_5 hf => ?_)
              exact r_sub [0, 1] rfl (w_X5_goCount_164 C K hret ih V_5 L x3 hf)
            · refine r_iconst C dX5_goCount_149 ki_1 ?_
              refine r_goto C (tgt := 161) dX5_goCount_150 rfl ?_
              refine p_RX5_128_0 rfl C K dX5_goCount_161 hf (fun V_6 hf => ?_)
              exact r_sub [0, 1] rfl (w_X5_goCount_164 C K hret ih V_6 L x3 hf)
set_option maxRecDepth 100000 in
theorem w_X5_goCount_54 {X : XT} {E : EvT} {Z : Nat → Prop} {Q : State → Prop} {A : Nat → Nat} (C : Cx X (.code yX5_goCount cX5_goCount 4 (some .int)) cX5_goCount 4 RX5 rm_X5_goCount.frames rm_X5_goCount.locals) (K : Ck X E Z) {r0 : Int32} {V0 : Nat → Nat → Int32} {L0 : Nat → Int64} (hret : RI X 4 cX5_goCount (IF X E Z (mw E A)) Q .int r0 (V0, L0)) (V : Nat → Nat → Int32) (L : Nat → Int64) : ∀ (n : Nat) (x2 : Int32) (x3 : Int32), f_X5_goCount_54 V L n x2 x3 = some (r0, V0, L0) → Wm X 4 (IF X E Z (mw E A)) Q 54 [(0, .ref (A 0)), (2, .int x2), (3, .int x3)] [] (V, L) := by
  intro n
  induction n with
  | zero =>
    intro x2 x3 hf
    exact none_e hf
  | succ n ih =>
    intro x2 x3 hf
    rw [f_X5_goCount_54] at hf
    refine r_iload_n C dX5_goCount_54 1 rfl rfl ?_
    refine r_if_gt C (tgt := 70) dX5_goCount_55 rfl hf (fun hf => ?_) (fun hf => ?_)
    · exact r_sub [0, 1, 2] rfl (w_X5_goCount_70 C K hret ih x2 x3 hf)
    · refine r_aload_n C dX5_goCount_58 0 rfl rfl ?_
      refine g_RX5_13_0 C K dX5_goCount_59 ?_
      refine r_iload_n C dX5_goCount_62 2 rfl rfl ?_
      refine s_iald C K (mw_a4 E A _ _) dX5_goCount_63 hf (fun hf => ?_)
      refine r_callP C cas_RX5_143 ⟨rfl, rfl, Nat.le_of_ble_eq_true rfl, Nat.le_of_ble_eq_true rfl⟩ (t_X5_takes _ (V 4 x3.toNatClampNeg)) rfl (rest := []) rfl (Nat.le_of_ble_eq_true rfl) dX5_goCount_64 ?_
      refine r_if_ne C (tgt := 92) dX5_goCount_67 rfl hf (fun hf => ?_) (fun hf => ?_)
      · exact r_sub [0, 2] rfl (w_X5_goCount_92 C K hret 20000 V L x3 hf)
      · exact r_sub [0, 1, 2] rfl (w_X5_goCount_70 C K hret ih x2 x3 hf)
set_option maxRecDepth 100000 in
theorem w_X5_goCount_42 {X : XT} {E : EvT} {Z : Nat → Prop} {Q : State → Prop} {A : Nat → Nat} (C : Cx X (.code yX5_goCount cX5_goCount 4 (some .int)) cX5_goCount 4 RX5 rm_X5_goCount.frames rm_X5_goCount.locals) (K : Ck X E Z) {r0 : Int32} {V0 : Nat → Nat → Int32} {L0 : Nat → Int64} (hret : RI X 4 cX5_goCount (IF X E Z (mw E A)) Q .int r0 (V0, L0)) : ∀ (V : Nat → Nat → Int32) (L : Nat → Int64) (x2 : Int32) (x3 : Int32), f_X5_goCount_42 V L x2 x3 = some (r0, V0, L0) → Wm X 4 (IF X E Z (mw E A)) Q 42 [(0, .ref (A 0)), (2, .int x2), (3, .int x3)] [] (V, L) := by
  intro V L x2 x3 hf
  rw [f_X5_goCount_42] at hf
  refine r_iload_n C dX5_goCount_42 1 rfl rfl ?_
  refine r_aload_n C dX5_goCount_43 0 rfl rfl ?_
  refine g_RX5_13_0 C K dX5_goCount_44 ?_
  refine r_iload_n C dX5_goCount_47 2 rfl rfl ?_
  refine s_iald C K (mw_a4 E A _ _) dX5_goCount_48 hf (fun hf => ?_)
  refine r_callP C cas_RX5_143 ⟨rfl, rfl, Nat.le_of_ble_eq_true rfl, Nat.le_of_ble_eq_true rfl⟩ (t_X5_takes _ (V 4 x3.toNatClampNeg)) rfl (rest := [.int x2]) rfl (Nat.le_of_ble_eq_true rfl) dX5_goCount_49 ?_
  refine r_isub C dX5_goCount_52 ?_
  refine b_int hf (fun t_1 hf => ?_)
  refine r_istore_n C dX5_goCount_53 rfl (Nat.le_of_ble_eq_true rfl) (lv2 := [(2, .int t_1), (0, .ref (A 0)), (3, .int x3)]) rfl ?_
  exact r_sub [1, 0, 2] rfl (w_X5_goCount_54 C K hret V L 20000 t_1 x3 hf)
set_option maxRecDepth 100000 in
theorem w_X5_goCount_0 {X : XT} {E : EvT} {Z : Nat → Prop} {Q : State → Prop} {A : Nat → Nat} (C : Cx X (.code yX5_goCount cX5_goCount 4 (some .int)) cX5_goCount 4 RX5 rm_X5_goCount.frames rm_X5_goCount.locals) (K : Ck X E Z) {r0 : Int32} {V0 : Nat → Nat → Int32} {L0 : Nat → Int64} (hret : RI X 4 cX5_goCount (IF X E Z (mw E A)) Q .int r0 (V0, L0)) : ∀ (V : Nat → Nat → Int32) (L : Nat → Int64) (x1 : Int32), f_X5_goCount V L x1 = some (r0, V0, L0) → Wm X 4 (IF X E Z (mw E A)) Q 0 [(0, .ref (A 0)), (1, .int x1)] [] (V, L) := by
  intro V L x1 hf
  rw [f_X5_goCount] at hf
  refine r_iload_n C dX5_goCount_0 1 rfl rfl ?_
  refine r_iconst C dX5_goCount_1 ki_1 ?_
  refine r_isub C dX5_goCount_2 ?_
  refine r_aload_n C dX5_goCount_3 0 rfl rfl ?_
  refine bd1_e hf (fun r_1 hq hf => ?_)
  refine f_callI C K cal_RX5_149 ⟨rfl, rfl, Nat.le_of_ble_eq_true rfl, Nat.le_of_ble_eq_true rfl⟩ (t_X5_beatsIn _ hq) (mw_o0 E A _ _) rfl (mw_fst _ _ _ _ _ _) rfl (rest := [.int (x1 - (1 : Int32))]) rfl (Nat.le_of_ble_eq_true rfl) dX5_goCount_4 ?_
  refine gd_ni hf (fun hne hf => ?_)
  refine p_irem C dX5_goCount_7 hne ?_
  refine r_iconst C dX5_goCount_8 ki_1 ?_
  refine r_iadd C dX5_goCount_9 ?_
  refine b_int hf (fun t_2 hf => ?_)
  refine r_istore_n C dX5_goCount_10 rfl (Nat.le_of_ble_eq_true rfl) (lv2 := [(2, .int t_2), (0, .ref (A 0)), (1, .int x1)]) rfl ?_
  refine r_aload_n C dX5_goCount_11 1 rfl rfl ?_
  refine g_RX5_119_0 C K dX5_goCount_12 ?_
  refine r_aload_n C dX5_goCount_15 1 rfl rfl ?_
  refine g_RX5_125_0 C K dX5_goCount_16 ?_
  refine r_callP C cas_RX5_140 ⟨rfl, rfl, Nat.le_of_ble_eq_true rfl, Nat.le_of_ble_eq_true rfl⟩ (t_X5_isIn _ (V 0 5) (V 0 7)) rfl (rest := []) rfl (Nat.le_of_ble_eq_true rfl) dX5_goCount_19 ?_
  refine r_if_eq C (tgt := 32) dX5_goCount_22 rfl hf (fun hf => ?_) (fun hf => ?_)
  · refine r_aload_n C dX5_goCount_32 1 rfl rfl ?_
    refine r_aload_n C dX5_goCount_33 1 rfl rfl ?_
    refine g_RX5_125_0 C K dX5_goCount_34 ?_
    refine r_iconst C dX5_goCount_37 ki_0 ?_
    refine bd1_e hf (fun r_3 hq hf => ?_)
    refine f_callI C K cal_RX5_152 ⟨rfl, rfl, Nat.le_of_ble_eq_true rfl, Nat.le_of_ble_eq_true rfl⟩ (t_X5_nextFrom _ (V 0 7) (0 : Int32) hq) (mw_o0 E A _ _) rfl (mw_fst _ _ _ _ _ _) rfl (rest := []) rfl (Nat.le_of_ble_eq_true rfl) dX5_goCount_38 ?_
    refine r_istore_n C dX5_goCount_41 rfl (Nat.le_of_ble_eq_true rfl) (lv2 := [(3, .int r_3), (2, .int t_2), (0, .ref (A 0)), (1, .int x1)]) rfl ?_
    exact r_sub [2, 1, 0] rfl (w_X5_goCount_42 C K hret V L t_2 r_3 hf)
  · refine r_aload_n C dX5_goCount_25 1 rfl rfl ?_
    refine g_RX5_125_0 C K dX5_goCount_26 ?_
    refine r_goto C (tgt := 41) dX5_goCount_29 rfl ?_
    refine r_istore_n C dX5_goCount_41 rfl (Nat.le_of_ble_eq_true rfl) (lv2 := [(3, .int (V 0 7)), (2, .int t_2), (0, .ref (A 0)), (1, .int x1)]) rfl ?_
    exact r_sub [2, 1, 0] rfl (w_X5_goCount_42 C K hret V L t_2 (V 0 7) hf)
theorem t_X5_goCount (l : Launch) {E : EvT} {A : Nat → Nat} {V : Nat → Nat → Int32} {L : Nat → Int64} (x1 : Int32) {r0 : Int32} {V0 : Nat → Nat → Int32} {L0 : Nat → Int64} (hq : f_X5_goCount V L x1 = some (r0, V0, L0)) : KI l yX5_goCount (.code yX5_goCount cX5_goCount 4 (some .int) :: wA) rm_X5_goCount E (mw E A V L) (mw E A V0 L0) [.ref (A 0), .int x1] r0 := by
  refine ent_I (own := RX5) (ty := .int) (lv0 := [(0, .ref (A 0)), (1, .int x1)]) (by decide) rfl rfl (Nat.le_of_ble_eq_true rfl) rfl (mw_fst _ _ _ _ _ _) ?_
  intro X Z Q hl C K hret
  exact w_X5_goCount_0 C K hret V L x1 hq
set_option maxRecDepth 100000 in
theorem w_X5_save_0 {X : XT} {E : EvT} {Z : Nat → Prop} {Q : State → Prop} {A : Nat → Nat} (C : Cx X (.code yX5_save cX5_save 1 none) cX5_save 1 RX5 rm_X5_save.frames rm_X5_save.locals) (K : Ck X E Z) {V0 : Nat → Nat → Int32} {L0 : Nat → Int64} (hret : RV X 1 cX5_save (IF X E Z (mw E A)) Q (V0, L0)) : ∀ (V : Nat → Nat → Int32) (L : Nat → Int64), f_X5_save V L = some (V0, L0) → Wm X 1 (IF X E Z (mw E A)) Q 0 [(0, .ref (A 0))] [] (V, L) := by
  intro V L hf
  rw [f_X5_save] at hf
  refine r_aload_n C dX5_save_0 0 rfl rfl ?_
  refine r_aload_n C dX5_save_1 0 rfl rfl ?_
  refine g_RX5_119_0 C K dX5_save_2 ?_
  refine p_RX5_163_0 C K dX5_save_5 hf (fun V_1 hf => ?_)
  refine r_aload_n C dX5_save_8 0 rfl rfl ?_
  refine r_aload_n C dX5_save_9 0 rfl rfl ?_
  refine g_RX5_122_0 C K dX5_save_10 ?_
  refine p_RX5_166_0 C K dX5_save_13 hf (fun V_2 hf => ?_)
  refine r_aload_n C dX5_save_16 0 rfl rfl ?_
  refine r_aload_n C dX5_save_17 0 rfl rfl ?_
  refine g_RX5_125_0 C K dX5_save_18 ?_
  refine p_RX5_169_0 C K dX5_save_21 hf (fun V_3 hf => ?_)
  refine r_aload_n C dX5_save_24 0 rfl rfl ?_
  refine r_aload_n C dX5_save_25 0 rfl rfl ?_
  refine g_RX5_128_0 C K dX5_save_26 ?_
  refine gd_if hf (fun hz hf => ?_)
  refine p_RX5_172_0 hz C K dX5_save_29 hf (fun V_4 hf => ?_)
  exact rv_OV hret hf dX5_save_32
theorem t_X5_save (l : Launch) {E : EvT} {A : Nat → Nat} {V : Nat → Nat → Int32} {L : Nat → Int64} {V0 : Nat → Nat → Int32} {L0 : Nat → Int64} (hq : f_X5_save V L = some (V0, L0)) : KV l yX5_save (.code yX5_save cX5_save 1 none :: wA) rm_X5_save E (mw E A V L) (mw E A V0 L0) [.ref (A 0)] := by
  refine ent_V (own := RX5) (lv0 := [(0, .ref (A 0))]) (by decide) rfl rfl (Nat.le_of_ble_eq_true rfl) rfl (mw_fst _ _ _ _ _ _) ?_
  intro X Z Q hl C K hret
  exact w_X5_save_0 C K hret V L  hq
set_option maxRecDepth 100000 in
theorem w_X5_load_0 {X : XT} {E : EvT} {Z : Nat → Prop} {Q : State → Prop} {A : Nat → Nat} (C : Cx X (.code yX5_load cX5_load 1 none) cX5_load 1 RX5 rm_X5_load.frames rm_X5_load.locals) (K : Ck X E Z) {V0 : Nat → Nat → Int32} {L0 : Nat → Int64} (hret : RV X 1 cX5_load (IF X E Z (mw E A)) Q (V0, L0)) : ∀ (V : Nat → Nat → Int32) (L : Nat → Int64), f_X5_load V L = some (V0, L0) → Wm X 1 (IF X E Z (mw E A)) Q 0 [(0, .ref (A 0))] [] (V, L) := by
  intro V L hf
  rw [f_X5_load] at hf
  refine r_aload_n C dX5_load_0 0 rfl rfl ?_
  refine r_aload_n C dX5_load_1 0 rfl rfl ?_
  refine g_RX5_163_0 C K dX5_load_2 ?_
  refine p_RX5_119_0 C K dX5_load_5 hf (fun V_1 hf => ?_)
  refine r_aload_n C dX5_load_8 0 rfl rfl ?_
  refine r_aload_n C dX5_load_9 0 rfl rfl ?_
  refine g_RX5_166_0 C K dX5_load_10 ?_
  refine p_RX5_122_0 C K dX5_load_13 hf (fun V_2 hf => ?_)
  refine r_aload_n C dX5_load_16 0 rfl rfl ?_
  refine r_aload_n C dX5_load_17 0 rfl rfl ?_
  refine g_RX5_169_0 C K dX5_load_18 ?_
  refine p_RX5_125_0 C K dX5_load_21 hf (fun V_3 hf => ?_)
  refine r_aload_n C dX5_load_24 0 rfl rfl ?_
  refine r_aload_n C dX5_load_25 0 rfl rfl ?_
  refine g_RX5_172_0 C K dX5_load_26 ?_
  refine gd_if hf (fun hz hf => ?_)
  refine p_RX5_128_0 hz C K dX5_load_29 hf (fun V_4 hf => ?_)
  exact rv_OV hret hf dX5_load_32
theorem t_X5_load (l : Launch) {E : EvT} {A : Nat → Nat} {V : Nat → Nat → Int32} {L : Nat → Int64} {V0 : Nat → Nat → Int32} {L0 : Nat → Int64} (hq : f_X5_load V L = some (V0, L0)) : KV l yX5_load (.code yX5_load cX5_load 1 none :: wA) rm_X5_load E (mw E A V L) (mw E A V0 L0) [.ref (A 0)] := by
  refine ent_V (own := RX5) (lv0 := [(0, .ref (A 0))]) (by decide) rfl rfl (Nat.le_of_ble_eq_true rfl) rfl (mw_fst _ _ _ _ _ _) ?_
  intro X Z Q hl C K hret
  exact w_X5_load_0 C K hret V L  hq
set_option maxRecDepth 100000 in
theorem w_X5_lastNow_20 {X : XT} {E : EvT} {Z : Nat → Prop} {Q : State → Prop} {A : Nat → Nat} (C : Cx X (.code yX5_lastNow cX5_lastNow 4 (some .int)) cX5_lastNow 4 RX5 rm_X5_lastNow.frames rm_X5_lastNow.locals) (K : Ck X E Z) {r0 : Int32} {V0 : Nat → Nat → Int32} {L0 : Nat → Int64} (hret : RI X 4 cX5_lastNow (IF X E Z (mw E A)) Q .int r0 (V0, L0)) (V : Nat → Nat → Int32) (L : Nat → Int64) : ∀ (n : Nat) (x2 : Int32) (x3 : Int32), f_X5_lastNow_20 V L n x2 x3 = some (r0, V0, L0) → Wm X 4 (IF X E Z (mw E A)) Q 20 [(0, .ref (A 0)), (2, .int x2), (3, .int x3)] [] (V, L) := by
  intro n
  induction n with
  | zero =>
    intro x2 x3 hf
    exact none_e hf
  | succ n ih =>
    intro x2 x3 hf
    rw [f_X5_lastNow_20] at hf
    refine r_iload_n C dX5_lastNow_20 2 rfl rfl ?_
    refine r_aload_n C dX5_lastNow_21 0 rfl rfl ?_
    refine g_RX5_116_0 C K dX5_lastNow_22 ?_
    refine r_icmp_ge C (tgt := 51) dX5_lastNow_25 rfl hf (fun hf => ?_) (fun hf => ?_)
    · refine r_aload_n C dX5_lastNow_51 0 rfl rfl ?_
      refine g_RX5_119_0 C K dX5_lastNow_52 ?_
      refine bd1_e hf (fun r_1 hq hf => ?_)
      refine r_callP C cas_RX5_146 ⟨rfl, rfl, Nat.le_of_ble_eq_true rfl, Nat.le_of_ble_eq_true rfl⟩ (t_X5_size _ (V 0 5) hq) rfl (rest := []) rfl (Nat.le_of_ble_eq_true rfl) dX5_lastNow_55 ?_
      refine r_iconst C dX5_lastNow_58 ki_1 ?_
      refine r_icmp_ne C (tgt := 66) dX5_lastNow_59 rfl hf (fun hf => ?_) (fun hf => ?_)
      · refine r_iconst C dX5_lastNow_66 ki_m1 ?_
        exact ri_OW hret hf dX5_lastNow_67 rfl
      · refine r_iload_n C dX5_lastNow_62 1 rfl rfl ?_
        refine r_goto C (tgt := 67) dX5_lastNow_63 rfl ?_
        exact ri_OW hret hf dX5_lastNow_67 rfl
    · refine r_aload_n C dX5_lastNow_28 0 rfl rfl ?_
      refine g_RX5_119_0 C K dX5_lastNow_29 ?_
      refine r_iload_n C dX5_lastNow_32 2 rfl rfl ?_
      refine r_callP C cas_RX5_140 ⟨rfl, rfl, Nat.le_of_ble_eq_true rfl, Nat.le_of_ble_eq_true rfl⟩ (t_X5_isIn _ (V 0 5) x3) rfl (rest := []) rfl (Nat.le_of_ble_eq_true rfl) dX5_lastNow_33 ?_
      refine r_if_eq C (tgt := 43) dX5_lastNow_36 rfl hf (fun hf => ?_) (fun hf => ?_)
      · refine r_iload_n C dX5_lastNow_43 1 rfl rfl ?_
        refine r_istore_n C dX5_lastNow_44 rfl (Nat.le_of_ble_eq_true rfl) (lv2 := [(2, .int x2), (0, .ref (A 0)), (3, .int x3)]) rfl ?_
        refine r_iinc C dX5_lastNow_45 2 rfl (kn_1 _) (Nat.le_of_ble_eq_true rfl) (lv2 := [(3, .int (x3 + 1)), (2, .int x2), (0, .ref (A 0))]) rfl ?_
        refine r_goto C (tgt := 20) dX5_lastNow_48 rfl ?_
        exact r_sub [2, 1, 0] rfl (ih x2 (x3 + 1) hf)
      · refine r_iload_n C dX5_lastNow_39 2 rfl rfl ?_
        refine r_goto C (tgt := 44) dX5_lastNow_40 rfl ?_
        refine r_istore_n C dX5_lastNow_44 rfl (Nat.le_of_ble_eq_true rfl) (lv2 := [(2, .int x3), (0, .ref (A 0)), (3, .int x3)]) rfl ?_
        refine r_iinc C dX5_lastNow_45 2 rfl (kn_1 _) (Nat.le_of_ble_eq_true rfl) (lv2 := [(3, .int (x3 + 1)), (2, .int x3), (0, .ref (A 0))]) rfl ?_
        refine r_goto C (tgt := 20) dX5_lastNow_48 rfl ?_
        exact r_sub [2, 1, 0] rfl (ih x3 (x3 + 1) hf)
set_option maxRecDepth 100000 in
theorem w_X5_lastNow_h0 {X : XT} {E : EvT} {Z : Nat → Prop} {Q : State → Prop} {A : Nat → Nat} (C : Cx X (.code yX5_lastNow cX5_lastNow 4 (some .int)) cX5_lastNow 4 RX5 rm_X5_lastNow.frames rm_X5_lastNow.locals) (K : Ck X E Z) {r0 : Int32} {V0 : Nat → Nat → Int32} {L0 : Nat → Int64} (hret : RI X 4 cX5_lastNow (IF X E Z (mw E A)) Q .int r0 (V0, L0)) (x1 : Int32) : ∀ (n : Nat) (V : Nat → Nat → Int32) (L : Nat → Int64), f_X5_lastNow_0 x1 n V L = some (r0, V0, L0) → Wm X 4 (IF X E Z (mw E A)) Q 0 [(0, .ref (A 0)), (1, .int x1)] [] (V, L) := by
  intro n
  induction n with
  | zero =>
    intro V L hf
    exact none_e hf
  | succ n ih =>
    intro V L hf
    rw [f_X5_lastNow_0] at hf
    refine r_aload_n C dX5_lastNow_0 0 rfl rfl ?_
    refine bd1_e hf (fun r_1 hq hf => ?_)
    refine f_callI C K cal_RX5_175 ⟨rfl, rfl, Nat.le_of_ble_eq_true rfl, Nat.le_of_ble_eq_true rfl⟩ (t_X5_isCount _ hq) (mw_o0 E A _ _) rfl (mw_fst _ _ _ _ _ _) rfl (rest := []) rfl (Nat.le_of_ble_eq_true rfl) dX5_lastNow_1 ?_
    refine r_if_eq C (tgt := 16) dX5_lastNow_4 rfl hf (fun hf => ?_) (fun hf => ?_)
    · refine r_iconst C dX5_lastNow_16 ki_m1 ?_
      refine r_istore_n C dX5_lastNow_17 rfl (Nat.le_of_ble_eq_true rfl) (lv2 := [(2, .int (-1 : Int32)), (0, .ref (A 0)), (1, .int x1)]) rfl ?_
      refine r_iconst C dX5_lastNow_18 ki_0 ?_
      refine r_istore_n C dX5_lastNow_19 rfl (Nat.le_of_ble_eq_true rfl) (lv2 := [(3, .int (0 : Int32)), (2, .int (-1 : Int32)), (0, .ref (A 0)), (1, .int x1)]) rfl ?_
      exact r_sub [2, 1, 0] rfl (w_X5_lastNow_20 C K hret V L 20000 (-1 : Int32) (0 : Int32) hf)
    · refine r_aload_n C dX5_lastNow_7 0 rfl rfl ?_
      refine r_iload_n C dX5_lastNow_8 1 rfl rfl ?_
      refine bd3_e hf (fun r_2 V_3 L_4 hq hf => ?_)
      refine f_callI C K cal_RX5_179 ⟨rfl, rfl, Nat.le_of_ble_eq_true rfl, Nat.le_of_ble_eq_true rfl⟩ (t_X5_goCount _ x1 hq) (mw_o0 E A _ _) rfl (mw_fst _ _ _ _ _ _) rfl (rest := []) rfl (Nat.le_of_ble_eq_true rfl) dX5_lastNow_9 ?_
      refine r_pop C dX5_lastNow_12 rfl ?_
      refine r_goto C (tgt := 0) dX5_lastNow_13 rfl ?_
      exact r_sub [0, 1] rfl (ih V_3 L_4 hf)
set_option maxRecDepth 100000 in
theorem w_X5_lastNow_0 {X : XT} {E : EvT} {Z : Nat → Prop} {Q : State → Prop} {A : Nat → Nat} (C : Cx X (.code yX5_lastNow cX5_lastNow 4 (some .int)) cX5_lastNow 4 RX5 rm_X5_lastNow.frames rm_X5_lastNow.locals) (K : Ck X E Z) {r0 : Int32} {V0 : Nat → Nat → Int32} {L0 : Nat → Int64} (hret : RI X 4 cX5_lastNow (IF X E Z (mw E A)) Q .int r0 (V0, L0)) : ∀ (V : Nat → Nat → Int32) (L : Nat → Int64) (x1 : Int32), f_X5_lastNow V L x1 = some (r0, V0, L0) → Wm X 4 (IF X E Z (mw E A)) Q 0 [(0, .ref (A 0)), (1, .int x1)] [] (V, L) := by
  intro V L x1 hf
  rw [f_X5_lastNow] at hf
  exact r_sub [0, 1] rfl (w_X5_lastNow_h0 C K hret x1 20000 V L hf)
theorem t_X5_lastNow (l : Launch) {E : EvT} {A : Nat → Nat} {V : Nat → Nat → Int32} {L : Nat → Int64} (x1 : Int32) {r0 : Int32} {V0 : Nat → Nat → Int32} {L0 : Nat → Int64} (hq : f_X5_lastNow V L x1 = some (r0, V0, L0)) : KI l yX5_lastNow (.code yX5_lastNow cX5_lastNow 4 (some .int) :: wA) rm_X5_lastNow E (mw E A V L) (mw E A V0 L0) [.ref (A 0), .int x1] r0 := by
  refine ent_I (own := RX5) (ty := .int) (lv0 := [(0, .ref (A 0)), (1, .int x1)]) (by decide) rfl rfl (Nat.le_of_ble_eq_true rfl) rfl (mw_fst _ _ _ _ _ _) ?_
  intro X Z Q hl C K hret
  exact w_X5_lastNow_0 C K hret V L x1 hq
set_option maxRecDepth 100000 in
theorem w_X5_lastBy_0 {X : XT} {E : EvT} {Z : Nat → Prop} {Q : State → Prop} {A : Nat → Nat} (C : Cx X (.code yX5_lastBy cX5_lastBy 3 (some .int)) cX5_lastBy 3 RX5 rm_X5_lastBy.frames rm_X5_lastBy.locals) (K : Ck X E Z) {r0 : Int32} {V0 : Nat → Nat → Int32} {L0 : Nat → Int64} (hret : RI X 3 cX5_lastBy (IF X E Z (mw E A)) Q .int r0 (V0, L0)) : ∀ (V : Nat → Nat → Int32) (L : Nat → Int64) (x1 : Int32), f_X5_lastBy V L x1 = some (r0, V0, L0) → Wm X 3 (IF X E Z (mw E A)) Q 0 [(0, .ref (A 0)), (1, .int x1)] [] (V, L) := by
  intro V L x1 hf
  rw [f_X5_lastBy] at hf
  refine r_aload_n C dX5_lastBy_0 0 rfl rfl ?_
  refine bd2_e hf (fun V_1 L_2 hq hf => ?_)
  refine f_callV C K cal_RX5_182 ⟨rfl, rfl, Nat.le_of_ble_eq_true rfl, Nat.le_of_ble_eq_true rfl⟩ (t_X5_save _ hq) (mw_o0 E A _ _) rfl (mw_fst _ _ _ _ _ _) rfl (rest := []) rfl (Nat.le_of_ble_eq_true rfl) dX5_lastBy_1 ?_
  refine r_aload_n C dX5_lastBy_4 0 rfl rfl ?_
  refine r_iload_n C dX5_lastBy_5 1 rfl rfl ?_
  refine bd3_e hf (fun r_3 V_4 L_5 hq hf => ?_)
  refine f_callI C K cal_RX5_185 ⟨rfl, rfl, Nat.le_of_ble_eq_true rfl, Nat.le_of_ble_eq_true rfl⟩ (t_X5_lastNow _ x1 hq) (mw_o0 E A _ _) rfl (mw_fst _ _ _ _ _ _) rfl (rest := []) rfl (Nat.le_of_ble_eq_true rfl) dX5_lastBy_6 ?_
  refine r_istore_n C dX5_lastBy_9 rfl (Nat.le_of_ble_eq_true rfl) (lv2 := [(2, .int r_3), (0, .ref (A 0)), (1, .int x1)]) rfl ?_
  refine r_aload_n C dX5_lastBy_10 1 rfl rfl ?_
  refine bd2_e hf (fun V_6 L_7 hq hf => ?_)
  refine f_callV C K cal_RX5_188 ⟨rfl, rfl, Nat.le_of_ble_eq_true rfl, Nat.le_of_ble_eq_true rfl⟩ (t_X5_load _ hq) (mw_o0 E A _ _) rfl (mw_fst _ _ _ _ _ _) rfl (rest := []) rfl (Nat.le_of_ble_eq_true rfl) dX5_lastBy_11 ?_
  refine r_iload_n C dX5_lastBy_14 0 rfl rfl ?_
  exact ri_OW hret hf dX5_lastBy_15 rfl
theorem t_X5_lastBy (l : Launch) {E : EvT} {A : Nat → Nat} {V : Nat → Nat → Int32} {L : Nat → Int64} (x1 : Int32) {r0 : Int32} {V0 : Nat → Nat → Int32} {L0 : Nat → Int64} (hq : f_X5_lastBy V L x1 = some (r0, V0, L0)) : KI l yX5_lastBy (.code yX5_lastBy cX5_lastBy 3 (some .int) :: wA) rm_X5_lastBy E (mw E A V L) (mw E A V0 L0) [.ref (A 0), .int x1] r0 := by
  refine ent_I (own := RX5) (ty := .int) (lv0 := [(0, .ref (A 0)), (1, .int x1)]) (by decide) rfl rfl (Nat.le_of_ble_eq_true rfl) rfl (mw_fst _ _ _ _ _ _) ?_
  intro X Z Q hl C K hret
  exact w_X5_lastBy_0 C K hret V L x1 hq
set_option maxRecDepth 100000 in
theorem w_X5_outBy_0 {X : XT} {E : EvT} {Z : Nat → Prop} {Q : State → Prop} {A : Nat → Nat} (C : Cx X (.code yX5_outBy cX5_outBy 4 (some .int)) cX5_outBy 4 RX5 rm_X5_outBy.frames rm_X5_outBy.locals) (K : Ck X E Z) {r0 : Int32} {V0 : Nat → Nat → Int32} {L0 : Nat → Int64} (hret : RI X 4 cX5_outBy (IF X E Z (mw E A)) Q .int r0 (V0, L0)) : ∀ (V : Nat → Nat → Int32) (L : Nat → Int64) (x1 : Int32) (x2 : Int32), f_X5_outBy V L x1 x2 = some (r0, V0, L0) → Wm X 4 (IF X E Z (mw E A)) Q 0 [(0, .ref (A 0)), (1, .int x1), (2, .int x2)] [] (V, L) := by
  intro V L x1 x2 hf
  rw [f_X5_outBy] at hf
  refine r_aload_n C dX5_outBy_0 0 rfl rfl ?_
  refine bd1_e hf (fun r_1 hq hf => ?_)
  refine f_callI C K cal_RX5_175 ⟨rfl, rfl, Nat.le_of_ble_eq_true rfl, Nat.le_of_ble_eq_true rfl⟩ (t_X5_isCount _ hq) (mw_o0 E A _ _) rfl (mw_fst _ _ _ _ _ _) rfl (rest := []) rfl (Nat.le_of_ble_eq_true rfl) dX5_outBy_1 ?_
  refine r_if_ne C (tgt := 9) dX5_outBy_4 rfl hf (fun hf => ?_) (fun hf => ?_)
  · refine r_aload_n C dX5_outBy_9 0 rfl rfl ?_
    refine bd2_e hf (fun V_2 L_3 hq hf => ?_)
    refine f_callV C K cal_RX5_182 ⟨rfl, rfl, Nat.le_of_ble_eq_true rfl, Nat.le_of_ble_eq_true rfl⟩ (t_X5_save _ hq) (mw_o0 E A _ _) rfl (mw_fst _ _ _ _ _ _) rfl (rest := []) rfl (Nat.le_of_ble_eq_true rfl) dX5_outBy_10 ?_
    refine r_aload_n C dX5_outBy_13 0 rfl rfl ?_
    refine r_iload_n C dX5_outBy_14 1 rfl rfl ?_
    refine p_RX5_125_0 C K dX5_outBy_15 hf (fun V_4 hf => ?_)
    refine r_aload_n C dX5_outBy_18 0 rfl rfl ?_
    refine r_iload_n C dX5_outBy_19 2 rfl rfl ?_
    refine bd3_e hf (fun r_5 V_6 L_7 hq hf => ?_)
    refine f_callI C K cal_RX5_179 ⟨rfl, rfl, Nat.le_of_ble_eq_true rfl, Nat.le_of_ble_eq_true rfl⟩ (t_X5_goCount _ x2 hq) (mw_o0 E A _ _) rfl (mw_fst _ _ _ _ _ _) rfl (rest := []) rfl (Nat.le_of_ble_eq_true rfl) dX5_outBy_20 ?_
    refine r_istore_n C dX5_outBy_23 rfl (Nat.le_of_ble_eq_true rfl) (lv2 := [(3, .int r_5), (0, .ref (A 0)), (1, .int x1), (2, .int x2)]) rfl ?_
    refine r_aload_n C dX5_outBy_24 1 rfl rfl ?_
    refine bd2_e hf (fun V_8 L_9 hq hf => ?_)
    refine f_callV C K cal_RX5_188 ⟨rfl, rfl, Nat.le_of_ble_eq_true rfl, Nat.le_of_ble_eq_true rfl⟩ (t_X5_load _ hq) (mw_o0 E A _ _) rfl (mw_fst _ _ _ _ _ _) rfl (rest := []) rfl (Nat.le_of_ble_eq_true rfl) dX5_outBy_25 ?_
    refine r_iload_n C dX5_outBy_28 0 rfl rfl ?_
    exact ri_OW hret hf dX5_outBy_29 rfl
  · refine r_iconst C dX5_outBy_7 ki_m1 ?_
    exact ri_OW hret hf dX5_outBy_8 rfl
theorem t_X5_outBy (l : Launch) {E : EvT} {A : Nat → Nat} {V : Nat → Nat → Int32} {L : Nat → Int64} (x1 : Int32) (x2 : Int32) {r0 : Int32} {V0 : Nat → Nat → Int32} {L0 : Nat → Int64} (hq : f_X5_outBy V L x1 x2 = some (r0, V0, L0)) : KI l yX5_outBy (.code yX5_outBy cX5_outBy 4 (some .int) :: wA) rm_X5_outBy E (mw E A V L) (mw E A V0 L0) [.ref (A 0), .int x1, .int x2] r0 := by
  refine ent_I (own := RX5) (ty := .int) (lv0 := [(0, .ref (A 0)), (1, .int x1), (2, .int x2)]) (by decide) rfl rfl (Nat.le_of_ble_eq_true rfl) rfl (mw_fst _ _ _ _ _ _) ?_
  intro X Z Q hl C K hret
  exact w_X5_outBy_0 C K hret V L x1 x2 hq
set_option maxRecDepth 100000 in
theorem w_X5_beatsFor_2 {X : XT} {E : EvT} {Z : Nat → Prop} {Q : State → Prop} {A : Nat → Nat} (C : Cx X (.code yX5_beatsFor cX5_beatsFor 3 (some .int)) cX5_beatsFor 3 RX5 rm_X5_beatsFor.frames rm_X5_beatsFor.locals) (K : Ck X E Z) {r0 : Int32} {V0 : Nat → Nat → Int32} {L0 : Nat → Int64} (hret : RI X 3 cX5_beatsFor (IF X E Z (mw E A)) Q .int r0 (V0, L0)) (x1 : Int32) : ∀ (n : Nat) (V : Nat → Nat → Int32) (L : Nat → Int64) (x2 : Int32), f_X5_beatsFor_2 x1 n V L x2 = some (r0, V0, L0) → Wm X 3 (IF X E Z (mw E A)) Q 2 [(0, .ref (A 0)), (1, .int x1), (2, .int x2)] [] (V, L) := by
  intro n
  induction n with
  | zero =>
    intro V L x2 hf
    exact none_e hf
  | succ n ih =>
    intro V L x2 hf
    rw [f_X5_beatsFor_2] at hf
    refine r_iload_n C dX5_beatsFor_2 2 rfl rfl ?_
    refine r_bipush C dX5_beatsFor_3 kb_60 ?_
    refine r_icmp_gt C (tgt := 25) dX5_beatsFor_5 rfl hf (fun hf => ?_) (fun hf => ?_)
    · refine r_iconst C dX5_beatsFor_25 ki_m1 ?_
      exact ri_OW hret hf dX5_beatsFor_26 rfl
    · refine r_aload_n C dX5_beatsFor_8 0 rfl rfl ?_
      refine r_iload_n C dX5_beatsFor_9 2 rfl rfl ?_
      refine bd3_e hf (fun r_1 V_2 L_3 hq hf => ?_)
      refine f_callI C K cal_RX5_191 ⟨rfl, rfl, Nat.le_of_ble_eq_true rfl, Nat.le_of_ble_eq_true rfl⟩ (t_X5_lastBy _ x2 hq) (mw_o0 E A _ _) rfl (mw_fst _ _ _ _ _ _) rfl (rest := []) rfl (Nat.le_of_ble_eq_true rfl) dX5_beatsFor_10 ?_
      refine r_iload_n C dX5_beatsFor_13 1 rfl rfl ?_
      refine r_icmp_ne C (tgt := 19) dX5_beatsFor_14 rfl hf (fun hf => ?_) (fun hf => ?_)
      · refine r_iinc C dX5_beatsFor_19 2 rfl (kn_1 _) (Nat.le_of_ble_eq_true rfl) (lv2 := [(2, .int (x2 + 1)), (0, .ref (A 0)), (1, .int x1)]) rfl ?_
        refine r_goto C (tgt := 2) dX5_beatsFor_22 rfl ?_
        exact r_sub [1, 2, 0] rfl (ih V_2 L_3 (x2 + 1) hf)
      · refine r_iload_n C dX5_beatsFor_17 2 rfl rfl ?_
        exact ri_OW hret hf dX5_beatsFor_18 rfl
set_option maxRecDepth 100000 in
theorem w_X5_beatsFor_0 {X : XT} {E : EvT} {Z : Nat → Prop} {Q : State → Prop} {A : Nat → Nat} (C : Cx X (.code yX5_beatsFor cX5_beatsFor 3 (some .int)) cX5_beatsFor 3 RX5 rm_X5_beatsFor.frames rm_X5_beatsFor.locals) (K : Ck X E Z) {r0 : Int32} {V0 : Nat → Nat → Int32} {L0 : Nat → Int64} (hret : RI X 3 cX5_beatsFor (IF X E Z (mw E A)) Q .int r0 (V0, L0)) : ∀ (V : Nat → Nat → Int32) (L : Nat → Int64) (x1 : Int32), f_X5_beatsFor V L x1 = some (r0, V0, L0) → Wm X 3 (IF X E Z (mw E A)) Q 0 [(0, .ref (A 0)), (1, .int x1)] [] (V, L) := by
  intro V L x1 hf
  rw [f_X5_beatsFor] at hf
  refine r_iconst C dX5_beatsFor_0 ki_1 ?_
  refine r_istore_n C dX5_beatsFor_1 rfl (Nat.le_of_ble_eq_true rfl) (lv2 := [(2, .int (1 : Int32)), (0, .ref (A 0)), (1, .int x1)]) rfl ?_
  exact r_sub [1, 2, 0] rfl (w_X5_beatsFor_2 C K hret x1 20000 V L (1 : Int32) hf)
theorem t_X5_beatsFor (l : Launch) {E : EvT} {A : Nat → Nat} {V : Nat → Nat → Int32} {L : Nat → Int64} (x1 : Int32) {r0 : Int32} {V0 : Nat → Nat → Int32} {L0 : Nat → Int64} (hq : f_X5_beatsFor V L x1 = some (r0, V0, L0)) : KI l yX5_beatsFor (.code yX5_beatsFor cX5_beatsFor 3 (some .int) :: wA) rm_X5_beatsFor E (mw E A V L) (mw E A V0 L0) [.ref (A 0), .int x1] r0 := by
  refine ent_I (own := RX5) (ty := .int) (lv0 := [(0, .ref (A 0)), (1, .int x1)]) (by decide) rfl rfl (Nat.le_of_ble_eq_true rfl) rfl (mw_fst _ _ _ _ _ _) ?_
  intro X Z Q hl C K hret
  exact w_X5_beatsFor_0 C K hret V L x1 hq
set_option maxRecDepth 100000 in
theorem w_X5_childNow_0 {X : XT} {E : EvT} {Z : Nat → Prop} {Q : State → Prop} {A : Nat → Nat} (C : Cx X (.code yX5_childNow cX5_childNow 3 (some .int)) cX5_childNow 3 RX5 rm_X5_childNow.frames rm_X5_childNow.locals) (K : Ck X E Z) {r0 : Int32} {V0 : Nat → Nat → Int32} {L0 : Nat → Int64} (hret : RI X 3 cX5_childNow (IF X E Z (mw E A)) Q .int r0 (V0, L0)) : ∀ (V : Nat → Nat → Int32) (L : Nat → Int64) (x1 : Int32) (x2 : Int32), f_X5_childNow V L x1 x2 = some (r0, V0, L0) → Wm X 3 (IF X E Z (mw E A)) Q 0 [(0, .ref (A 0)), (1, .int x1), (2, .int x2)] [] (V, L) := by
  intro V L x1 x2 hf
  rw [f_X5_childNow] at hf
  refine r_iload_n C dX5_childNow_0 2 rfl rfl ?_
  refine br_if hf (fun hq hf => ?_) (fun h0 hf => ?_)
  · refine r_tblIn C (off := 35) (tgt := 36) dX5_childNow_1 (by rw [hq]; decide) (by rw [hq]; decide) (by rw [hq]; rfl) rfl ?_
    refine r_aload_n C dX5_childNow_36 0 rfl rfl ?_
    refine g_RX5_13_0 C K dX5_childNow_37 ?_
    refine r_iload_n C dX5_childNow_40 1 rfl rfl ?_
    refine s_iald C K (mw_a4 E A _ _) dX5_childNow_41 hf (fun hf => ?_)
    exact ri_OW hret hf dX5_childNow_42 rfl
  refine br_if hf (fun hq hf => ?_) (fun h1 hf => ?_)
  · refine r_tblIn C (off := 42) (tgt := 43) dX5_childNow_1 (by rw [hq]; decide) (by rw [hq]; decide) (by rw [hq]; rfl) rfl ?_
    refine r_aload_n C dX5_childNow_43 0 rfl rfl ?_
    refine g_RX5_119_0 C K dX5_childNow_44 ?_
    refine r_iload_n C dX5_childNow_47 1 rfl rfl ?_
    refine r_callP C cas_RX5_140 ⟨rfl, rfl, Nat.le_of_ble_eq_true rfl, Nat.le_of_ble_eq_true rfl⟩ (t_X5_isIn _ (V 0 5) x1) rfl (rest := []) rfl (Nat.le_of_ble_eq_true rfl) dX5_childNow_48 ?_
    refine r_if_eq C (tgt := 58) dX5_childNow_51 rfl hf (fun hf => ?_) (fun hf => ?_)
    · refine r_iconst C dX5_childNow_58 ki_0 ?_
      exact ri_OW hret hf dX5_childNow_59 rfl
    · refine r_iconst C dX5_childNow_54 ki_1 ?_
      refine r_goto C (tgt := 59) dX5_childNow_55 rfl ?_
      exact ri_OW hret hf dX5_childNow_59 rfl
  refine br_if hf (fun hq hf => ?_) (fun h2 hf => ?_)
  · refine r_tblIn C (off := 59) (tgt := 60) dX5_childNow_1 (by rw [hq]; decide) (by rw [hq]; decide) (by rw [hq]; rfl) rfl ?_
    refine r_aload_n C dX5_childNow_60 0 rfl rfl ?_
    refine g_RX5_122_0 C K dX5_childNow_61 ?_
    refine r_iload_n C dX5_childNow_64 1 rfl rfl ?_
    refine r_callP C cas_RX5_140 ⟨rfl, rfl, Nat.le_of_ble_eq_true rfl, Nat.le_of_ble_eq_true rfl⟩ (t_X5_isIn _ (V 0 6) x1) rfl (rest := []) rfl (Nat.le_of_ble_eq_true rfl) dX5_childNow_65 ?_
    refine r_if_eq C (tgt := 75) dX5_childNow_68 rfl hf (fun hf => ?_) (fun hf => ?_)
    · refine r_iconst C dX5_childNow_75 ki_0 ?_
      exact ri_OW hret hf dX5_childNow_76 rfl
    · refine r_iconst C dX5_childNow_71 ki_1 ?_
      refine r_goto C (tgt := 76) dX5_childNow_72 rfl ?_
      exact ri_OW hret hf dX5_childNow_76 rfl
  refine br_if hf (fun hq hf => ?_) (fun h3 hf => ?_)
  · refine r_tblIn C (off := 76) (tgt := 77) dX5_childNow_1 (by rw [hq]; decide) (by rw [hq]; decide) (by rw [hq]; rfl) rfl ?_
    refine r_aload_n C dX5_childNow_77 0 rfl rfl ?_
    refine g_RX5_13_0 C K dX5_childNow_78 ?_
    refine r_iload_n C dX5_childNow_81 1 rfl rfl ?_
    refine s_iald C K (mw_a4 E A _ _) dX5_childNow_82 hf (fun hf => ?_)
    refine r_callP C cas_RX5_143 ⟨rfl, rfl, Nat.le_of_ble_eq_true rfl, Nat.le_of_ble_eq_true rfl⟩ (t_X5_takes _ (V 4 x1.toNatClampNeg)) rfl (rest := []) rfl (Nat.le_of_ble_eq_true rfl) dX5_childNow_83 ?_
    exact ri_OW hret hf dX5_childNow_86 rfl
  refine br_if hf (fun hq hf => ?_) (fun h4 hf => ?_)
  · refine r_tblIn C (off := 86) (tgt := 87) dX5_childNow_1 (by rw [hq]; decide) (by rw [hq]; decide) (by rw [hq]; rfl) rfl ?_
    refine r_aload_n C dX5_childNow_87 0 rfl rfl ?_
    refine r_iload_n C dX5_childNow_88 1 rfl rfl ?_
    refine bd3_e hf (fun r_1 V_2 L_3 hq hf => ?_)
    refine f_callI C K cal_RX5_194 ⟨rfl, rfl, Nat.le_of_ble_eq_true rfl, Nat.le_of_ble_eq_true rfl⟩ (t_X5_beatsFor _ x1 hq) (mw_o0 E A _ _) rfl (mw_fst _ _ _ _ _ _) rfl (rest := []) rfl (Nat.le_of_ble_eq_true rfl) dX5_childNow_89 ?_
    exact ri_OW hret hf dX5_childNow_92 rfl
  refine r_tblOut C (tgt := 93) dX5_childNow_1 (by have q0 := lv_neT (a := 0) h0 rfl; have q1 := lv_neT (a := 1) h1 rfl; have q2 := lv_neT (a := 2) h2 rfl; have q3 := lv_neT (a := 3) h3 rfl; have q4 := lv_neT (a := 4) h4 rfl; omega) rfl ?_
  refine r_aload_n C dX5_childNow_93 0 rfl rfl ?_
  refine g_RX5_125_0 C K dX5_childNow_94 ?_
  refine r_iload_n C dX5_childNow_97 1 rfl rfl ?_
  refine r_icmp_ne C (tgt := 105) dX5_childNow_98 rfl hf (fun hf => ?_) (fun hf => ?_)
  · refine r_iconst C dX5_childNow_105 ki_0 ?_
    exact ri_OW hret hf dX5_childNow_106 rfl
  · refine r_iconst C dX5_childNow_101 ki_1 ?_
    refine r_goto C (tgt := 106) dX5_childNow_102 rfl ?_
    exact ri_OW hret hf dX5_childNow_106 rfl
theorem t_X5_childNow (l : Launch) {E : EvT} {A : Nat → Nat} {V : Nat → Nat → Int32} {L : Nat → Int64} (x1 : Int32) (x2 : Int32) {r0 : Int32} {V0 : Nat → Nat → Int32} {L0 : Nat → Int64} (hq : f_X5_childNow V L x1 x2 = some (r0, V0, L0)) : KI l yX5_childNow (.code yX5_childNow cX5_childNow 3 (some .int) :: wA) rm_X5_childNow E (mw E A V L) (mw E A V0 L0) [.ref (A 0), .int x1, .int x2] r0 := by
  refine ent_I (own := RX5) (ty := .int) (lv0 := [(0, .ref (A 0)), (1, .int x1), (2, .int x2)]) (by decide) rfl rfl (Nat.le_of_ble_eq_true rfl) rfl (mw_fst _ _ _ _ _ _) ?_
  intro X Z Q hl C K hret
  exact w_X5_childNow_0 C K hret V L x1 x2 hq
set_option maxRecDepth 100000 in
theorem w_X5_child_0 {X : XT} {E : EvT} {Z : Nat → Prop} {Q : State → Prop} {A : Nat → Nat} (C : Cx X (.code yX5_child cX5_child 3 (some .int)) cX5_child 3 RX5 rm_X5_child.frames rm_X5_child.locals) (K : Ck X E Z) {r0 : Int32} {V0 : Nat → Nat → Int32} {L0 : Nat → Int64} (hret : RI X 3 cX5_child (IF X E Z (mw E A)) Q .int r0 (V0, L0)) : ∀ (V : Nat → Nat → Int32) (L : Nat → Int64) (x1 : Int32) (x2 : Int32), f_X5_child V L x1 x2 = some (r0, V0, L0) → Wm X 3 (IF X E Z (mw E A)) Q 0 [(0, .ref (A 0)), (1, .int x1), (2, .int x2)] [] (V, L) := by
  intro V L x1 x2 hf
  rw [f_X5_child] at hf
  refine r_aload_n C dX5_child_0 0 rfl rfl ?_
  refine r_iload_n C dX5_child_1 1 rfl rfl ?_
  refine f_callI C K cal_RX5_197 ⟨rfl, rfl, Nat.le_of_ble_eq_true rfl, Nat.le_of_ble_eq_true rfl⟩ (t_X5_isChild _ x1) (mw_o0 E A _ _) rfl (mw_fst _ _ _ _ _ _) rfl (rest := []) rfl (Nat.le_of_ble_eq_true rfl) dX5_child_2 ?_
  refine r_if_ne C (tgt := 13) dX5_child_5 rfl hf (fun hf => ?_) (fun hf => ?_)
  · refine r_iload_n C dX5_child_13 2 rfl rfl ?_
    refine r_iconst C dX5_child_14 ki_0 ?_
    refine r_iconst C dX5_child_15 ki_5 ?_
    refine r_callP C cas_RX5_77 ⟨rfl, rfl, Nat.le_of_ble_eq_true rfl, Nat.le_of_ble_eq_true rfl⟩ (t_X5_within _ x2 (0 : Int32) (5 : Int32)) rfl (rest := []) rfl (Nat.le_of_ble_eq_true rfl) dX5_child_16 ?_
    refine r_if_eq C (tgt := 31) dX5_child_19 rfl hf (fun hf => ?_) (fun hf => ?_)
    · refine r_bipush C dX5_child_31 kb_m102 ?_
      exact ri_OW hret hf dX5_child_33 rfl
    · refine r_aload_n C dX5_child_22 0 rfl rfl ?_
      refine r_iload_n C dX5_child_23 1 rfl rfl ?_
      refine r_iload_n C dX5_child_24 2 rfl rfl ?_
      refine bd3_e hf (fun r_1 V_2 L_3 hq hf => ?_)
      refine f_callI C K cal_RX5_200 ⟨rfl, rfl, Nat.le_of_ble_eq_true rfl, Nat.le_of_ble_eq_true rfl⟩ (t_X5_childNow _ x1 x2 hq) (mw_o0 E A _ _) rfl (mw_fst _ _ _ _ _ _) rfl (rest := []) rfl (Nat.le_of_ble_eq_true rfl) dX5_child_25 ?_
      refine r_goto C (tgt := 33) dX5_child_28 rfl ?_
      exact ri_OW hret hf dX5_child_33 rfl
  · refine r_bipush C dX5_child_8 kb_m101 ?_
    refine r_goto C (tgt := 33) dX5_child_10 rfl ?_
    exact ri_OW hret hf dX5_child_33 rfl
theorem t_X5_child (l : Launch) {E : EvT} {A : Nat → Nat} {V : Nat → Nat → Int32} {L : Nat → Int64} (x1 : Int32) (x2 : Int32) {r0 : Int32} {V0 : Nat → Nat → Int32} {L0 : Nat → Int64} (hq : f_X5_child V L x1 x2 = some (r0, V0, L0)) : KI l yX5_child (.code yX5_child cX5_child 3 (some .int) :: wA) rm_X5_child E (mw E A V L) (mw E A V0 L0) [.ref (A 0), .int x1, .int x2] r0 := by
  refine ent_I (own := RX5) (ty := .int) (lv0 := [(0, .ref (A 0)), (1, .int x1), (2, .int x2)]) (by decide) rfl rfl (Nat.le_of_ble_eq_true rfl) rfl (mw_fst _ _ _ _ _ _) ?_
  intro X Z Q hl C K hret
  exact w_X5_child_0 C K hret V L x1 x2 hq
set_option maxRecDepth 100000 in
theorem w_X5_as_0 {X : XT} {E : EvT} {Z : Nat → Prop} {Q : State → Prop} {A : Nat → Nat} (C : Cx X (.code yX5_as cX5_as 4 (some .int)) cX5_as 4 RX5 rm_X5_as.frames rm_X5_as.locals) (K : Ck X E Z) {r0 : Int32} {V : Nat → Nat → Int32} {L : Nat → Int64} (hret : RI X 4 cX5_as (IF X E Z (mw E A)) Q .int r0 (V, L)) : ∀ (x1 : Int32) (x2 : Int32), f_X5_as V L x1 x2 = some r0 → Wm X 4 (IF X E Z (mw E A)) Q 0 [(0, .ref (A 0)), (1, .int x1), (2, .int x2)] [] (V, L) := by
  intro x1 x2 hf
  rw [f_X5_as] at hf
  refine r_aload_n C dX5_as_0 0 rfl rfl ?_
  refine r_iload_n C dX5_as_1 1 rfl rfl ?_
  refine f_callI C K cal_RX5_197 ⟨rfl, rfl, Nat.le_of_ble_eq_true rfl, Nat.le_of_ble_eq_true rfl⟩ (t_X5_isChild _ x1) (mw_o0 E A _ _) rfl (mw_fst _ _ _ _ _ _) rfl (rest := []) rfl (Nat.le_of_ble_eq_true rfl) dX5_as_2 ?_
  refine r_if_ne C (tgt := 11) dX5_as_5 rfl hf (fun hf => ?_) (fun hf => ?_)
  · refine r_iload_n C dX5_as_11 2 rfl rfl ?_
    refine r_iconst C dX5_as_12 ki_0 ?_
    refine r_iconst C dX5_as_13 ki_4 ?_
    refine r_callP C cas_RX5_77 ⟨rfl, rfl, Nat.le_of_ble_eq_true rfl, Nat.le_of_ble_eq_true rfl⟩ (t_X5_within _ x2 (0 : Int32) (4 : Int32)) rfl (rest := []) rfl (Nat.le_of_ble_eq_true rfl) dX5_as_14 ?_
    refine r_if_ne C (tgt := 23) dX5_as_17 rfl hf (fun hf => ?_) (fun hf => ?_)
    · refine r_aload_n C dX5_as_23 0 rfl rfl ?_
      refine g_RX5_13_0 C K dX5_as_24 ?_
      refine r_iload_n C dX5_as_27 1 rfl rfl ?_
      refine s_iald C K (mw_a4 E A _ _) dX5_as_28 hf (fun hf => ?_)
      refine r_istore_n C dX5_as_29 rfl (Nat.le_of_ble_eq_true rfl) (lv2 := [(3, .int (V 4 x1.toNatClampNeg)), (0, .ref (A 0)), (1, .int x1), (2, .int x2)]) rfl ?_
      refine r_iload_n C dX5_as_30 3 rfl rfl ?_
      refine r_if_eq C (tgt := 49) dX5_as_31 rfl hf (fun hf => ?_) (fun hf => ?_)
      · refine r_iload_n C dX5_as_49 2 rfl rfl ?_
        refine r_goto C (tgt := 54) dX5_as_50 rfl ?_
        exact ri_OR hret hf dX5_as_54 rfl
      · refine r_iload_n C dX5_as_34 0 rfl rfl ?_
        refine r_iload_n C dX5_as_35 3 rfl rfl ?_
        refine r_icmp_eq C (tgt := 49) dX5_as_36 rfl hf (fun hf => ?_) (fun hf => ?_)
        · refine r_iload_n C dX5_as_49 2 rfl rfl ?_
          refine r_goto C (tgt := 54) dX5_as_50 rfl ?_
          exact ri_OR hret hf dX5_as_54 rfl
        · refine r_iload_n C dX5_as_39 3 rfl rfl ?_
          refine r_iconst C dX5_as_40 ki_3 ?_
          refine r_icmp_ne C (tgt := 53) dX5_as_41 rfl hf (fun hf => ?_) (fun hf => ?_)
          · refine r_iconst C dX5_as_53 ki_m1 ?_
            exact ri_OR hret hf dX5_as_54 rfl
          · refine r_iload_n C dX5_as_44 0 rfl rfl ?_
            refine r_iconst C dX5_as_45 ki_4 ?_
            refine r_icmp_ne C (tgt := 53) dX5_as_46 rfl hf (fun hf => ?_) (fun hf => ?_)
            · refine r_iconst C dX5_as_53 ki_m1 ?_
              exact ri_OR hret hf dX5_as_54 rfl
            · refine r_iload_n C dX5_as_49 2 rfl rfl ?_
              refine r_goto C (tgt := 54) dX5_as_50 rfl ?_
              exact ri_OR hret hf dX5_as_54 rfl
    · refine r_bipush C dX5_as_20 kb_m102 ?_
      exact ri_OR hret hf dX5_as_22 rfl
  · refine r_bipush C dX5_as_8 kb_m101 ?_
    exact ri_OR hret hf dX5_as_10 rfl
theorem t_X5_as (l : Launch) {E : EvT} {A : Nat → Nat} {V : Nat → Nat → Int32} {L : Nat → Int64} (x1 : Int32) (x2 : Int32) {r0 : Int32} (hq : f_X5_as V L x1 x2 = some r0) : KI l yX5_as (.code yX5_as cX5_as 4 (some .int) :: wA) rm_X5_as E (mw E A V L) (mw E A V L) [.ref (A 0), .int x1, .int x2] r0 := by
  refine ent_I (own := RX5) (ty := .int) (lv0 := [(0, .ref (A 0)), (1, .int x1), (2, .int x2)]) (by decide) rfl rfl (Nat.le_of_ble_eq_true rfl) rfl (mw_fst _ _ _ _ _ _) ?_
  intro X Z Q hl C K hret
  exact w_X5_as_0 C K hret  x1 x2 hq
set_option maxRecDepth 100000 in
theorem w_X5_verseNow_0 {X : XT} {E : EvT} {Z : Nat → Prop} {Q : State → Prop} {A : Nat → Nat} (C : Cx X (.code yX5_verseNow cX5_verseNow 3 (some .int)) cX5_verseNow 3 RX5 rm_X5_verseNow.frames rm_X5_verseNow.locals) (K : Ck X E Z) {r0 : Int32} {V0 : Nat → Nat → Int32} {L0 : Nat → Int64} (hret : RI X 3 cX5_verseNow (IF X E Z (mw E A)) Q .int r0 (V0, L0)) : ∀ (V : Nat → Nat → Int32) (L : Nat → Int64) (x1 : Int32) (x2 : Int32), f_X5_verseNow V L x1 x2 = some (r0, V0, L0) → Wm X 3 (IF X E Z (mw E A)) Q 0 [(0, .ref (A 0)), (1, .int x1), (2, .int x2)] [] (V, L) := by
  intro V L x1 x2 hf
  rw [f_X5_verseNow] at hf
  refine r_iload_n C dX5_verseNow_0 2 rfl rfl ?_
  refine r_if_ne C (tgt := 13) dX5_verseNow_1 rfl hf (fun hf => ?_) (fun hf => ?_)
  · refine r_iload_n C dX5_verseNow_13 2 rfl rfl ?_
    refine r_iconst C dX5_verseNow_14 ki_1 ?_
    refine r_icmp_ne C (tgt := 35) dX5_verseNow_15 rfl hf (fun hf => ?_) (fun hf => ?_)
    · refine r_aload_n C dX5_verseNow_35 0 rfl rfl ?_
      refine r_aload_n C dX5_verseNow_36 0 rfl rfl ?_
      refine g_RX5_7_0 C K dX5_verseNow_37 ?_
      refine r_iload_n C dX5_verseNow_40 1 rfl rfl ?_
      refine s_iald C K (mw_a3 E A _ _) dX5_verseNow_41 hf (fun hf => ?_)
      refine bd3_e hf (fun r_1 V_2 L_3 hq hf => ?_)
      refine f_callI C K cal_RX5_191 ⟨rfl, rfl, Nat.le_of_ble_eq_true rfl, Nat.le_of_ble_eq_true rfl⟩ (t_X5_lastBy _ (V 3 x1.toNatClampNeg) hq) (mw_o0 E A _ _) rfl (mw_fst _ _ _ _ _ _) rfl (rest := []) rfl (Nat.le_of_ble_eq_true rfl) dX5_verseNow_42 ?_
      exact ri_OW hret hf dX5_verseNow_45 rfl
    · refine r_aload_n C dX5_verseNow_18 0 rfl rfl ?_
      refine r_aload_n C dX5_verseNow_19 0 rfl rfl ?_
      refine g_RX5_125_0 C K dX5_verseNow_20 ?_
      refine r_aload_n C dX5_verseNow_23 0 rfl rfl ?_
      refine g_RX5_7_0 C K dX5_verseNow_24 ?_
      refine r_iload_n C dX5_verseNow_27 1 rfl rfl ?_
      refine s_iald C K (mw_a3 E A _ _) dX5_verseNow_28 hf (fun hf => ?_)
      refine bd3_e hf (fun r_4 V_5 L_6 hq hf => ?_)
      refine f_callI C K cal_RX5_204 ⟨rfl, rfl, Nat.le_of_ble_eq_true rfl, Nat.le_of_ble_eq_true rfl⟩ (t_X5_outBy _ (V 0 7) (V 3 x1.toNatClampNeg) hq) (mw_o0 E A _ _) rfl (mw_fst _ _ _ _ _ _) rfl (rest := []) rfl (Nat.le_of_ble_eq_true rfl) dX5_verseNow_29 ?_
      refine r_goto C (tgt := 45) dX5_verseNow_32 rfl ?_
      exact ri_OW hret hf dX5_verseNow_45 rfl
  · refine r_aload_n C dX5_verseNow_4 0 rfl rfl ?_
    refine g_RX5_7_0 C K dX5_verseNow_5 ?_
    refine r_iload_n C dX5_verseNow_8 1 rfl rfl ?_
    refine s_iald C K (mw_a3 E A _ _) dX5_verseNow_9 hf (fun hf => ?_)
    refine r_goto C (tgt := 45) dX5_verseNow_10 rfl ?_
    exact ri_OW hret hf dX5_verseNow_45 rfl
theorem t_X5_verseNow (l : Launch) {E : EvT} {A : Nat → Nat} {V : Nat → Nat → Int32} {L : Nat → Int64} (x1 : Int32) (x2 : Int32) {r0 : Int32} {V0 : Nat → Nat → Int32} {L0 : Nat → Int64} (hq : f_X5_verseNow V L x1 x2 = some (r0, V0, L0)) : KI l yX5_verseNow (.code yX5_verseNow cX5_verseNow 3 (some .int) :: wA) rm_X5_verseNow E (mw E A V L) (mw E A V0 L0) [.ref (A 0), .int x1, .int x2] r0 := by
  refine ent_I (own := RX5) (ty := .int) (lv0 := [(0, .ref (A 0)), (1, .int x1), (2, .int x2)]) (by decide) rfl rfl (Nat.le_of_ble_eq_true rfl) rfl (mw_fst _ _ _ _ _ _) ?_
  intro X Z Q hl C K hret
  exact w_X5_verseNow_0 C K hret V L x1 x2 hq
set_option maxRecDepth 100000 in
theorem w_X5_verse_0 {X : XT} {E : EvT} {Z : Nat → Prop} {Q : State → Prop} {A : Nat → Nat} (C : Cx X (.code yX5_verse cX5_verse 3 (some .int)) cX5_verse 3 RX5 rm_X5_verse.frames rm_X5_verse.locals) (K : Ck X E Z) {r0 : Int32} {V0 : Nat → Nat → Int32} {L0 : Nat → Int64} (hret : RI X 3 cX5_verse (IF X E Z (mw E A)) Q .int r0 (V0, L0)) : ∀ (V : Nat → Nat → Int32) (L : Nat → Int64) (x1 : Int32) (x2 : Int32), f_X5_verse V L x1 x2 = some (r0, V0, L0) → Wm X 3 (IF X E Z (mw E A)) Q 0 [(0, .ref (A 0)), (1, .int x1), (2, .int x2)] [] (V, L) := by
  intro V L x1 x2 hf
  rw [f_X5_verse] at hf
  refine r_aload_n C dX5_verse_0 0 rfl rfl ?_
  refine r_iload_n C dX5_verse_1 1 rfl rfl ?_
  refine f_callI C K cal_RX5_207 ⟨rfl, rfl, Nat.le_of_ble_eq_true rfl, Nat.le_of_ble_eq_true rfl⟩ (t_X5_isVerse _ x1) (mw_o0 E A _ _) rfl (mw_fst _ _ _ _ _ _) rfl (rest := []) rfl (Nat.le_of_ble_eq_true rfl) dX5_verse_2 ?_
  refine r_if_ne C (tgt := 13) dX5_verse_5 rfl hf (fun hf => ?_) (fun hf => ?_)
  · refine r_iload_n C dX5_verse_13 2 rfl rfl ?_
    refine r_iconst C dX5_verse_14 ki_0 ?_
    refine r_iconst C dX5_verse_15 ki_2 ?_
    refine r_callP C cas_RX5_77 ⟨rfl, rfl, Nat.le_of_ble_eq_true rfl, Nat.le_of_ble_eq_true rfl⟩ (t_X5_within _ x2 (0 : Int32) (2 : Int32)) rfl (rest := []) rfl (Nat.le_of_ble_eq_true rfl) dX5_verse_16 ?_
    refine r_if_eq C (tgt := 31) dX5_verse_19 rfl hf (fun hf => ?_) (fun hf => ?_)
    · refine r_bipush C dX5_verse_31 kb_m102 ?_
      exact ri_OW hret hf dX5_verse_33 rfl
    · refine r_aload_n C dX5_verse_22 0 rfl rfl ?_
      refine r_iload_n C dX5_verse_23 1 rfl rfl ?_
      refine r_iload_n C dX5_verse_24 2 rfl rfl ?_
      refine bd3_e hf (fun r_1 V_2 L_3 hq hf => ?_)
      refine f_callI C K cal_RX5_210 ⟨rfl, rfl, Nat.le_of_ble_eq_true rfl, Nat.le_of_ble_eq_true rfl⟩ (t_X5_verseNow _ x1 x2 hq) (mw_o0 E A _ _) rfl (mw_fst _ _ _ _ _ _) rfl (rest := []) rfl (Nat.le_of_ble_eq_true rfl) dX5_verse_25 ?_
      refine r_goto C (tgt := 33) dX5_verse_28 rfl ?_
      exact ri_OW hret hf dX5_verse_33 rfl
  · refine r_bipush C dX5_verse_8 kb_m101 ?_
    refine r_goto C (tgt := 33) dX5_verse_10 rfl ?_
    exact ri_OW hret hf dX5_verse_33 rfl
theorem t_X5_verse (l : Launch) {E : EvT} {A : Nat → Nat} {V : Nat → Nat → Int32} {L : Nat → Int64} (x1 : Int32) (x2 : Int32) {r0 : Int32} {V0 : Nat → Nat → Int32} {L0 : Nat → Int64} (hq : f_X5_verse V L x1 x2 = some (r0, V0, L0)) : KI l yX5_verse (.code yX5_verse cX5_verse 3 (some .int) :: wA) rm_X5_verse E (mw E A V L) (mw E A V0 L0) [.ref (A 0), .int x1, .int x2] r0 := by
  refine ent_I (own := RX5) (ty := .int) (lv0 := [(0, .ref (A 0)), (1, .int x1), (2, .int x2)]) (by decide) rfl rfl (Nat.le_of_ble_eq_true rfl) rfl (mw_fst _ _ _ _ _ _) ?_
  intro X Z Q hl C K hret
  exact w_X5_verse_0 C K hret V L x1 x2 hq
set_option maxRecDepth 100000 in
theorem w_X5_say_0 {X : XT} {E : EvT} {Z : Nat → Prop} {Q : State → Prop} {A : Nat → Nat} (C : Cx X (.code yX5_say cX5_say 2 (some .int)) cX5_say 2 RX5 rm_X5_say.frames rm_X5_say.locals) (K : Ck X E Z) {r0 : Int32} {V0 : Nat → Nat → Int32} {L0 : Nat → Int64} (hret : RI X 2 cX5_say (IF X E Z (mw E A)) Q .int r0 (V0, L0)) : ∀ (V : Nat → Nat → Int32) (L : Nat → Int64) (x1 : Int32), f_X5_say V L x1 = some (r0, V0, L0) → Wm X 2 (IF X E Z (mw E A)) Q 0 [(0, .ref (A 0)), (1, .int x1)] [] (V, L) := by
  intro V L x1 hf
  rw [f_X5_say] at hf
  refine r_aload_n C dX5_say_0 0 rfl rfl ?_
  refine r_iload_n C dX5_say_1 1 rfl rfl ?_
  refine f_callI C K cal_RX5_207 ⟨rfl, rfl, Nat.le_of_ble_eq_true rfl, Nat.le_of_ble_eq_true rfl⟩ (t_X5_isVerse _ x1) (mw_o0 E A _ _) rfl (mw_fst _ _ _ _ _ _) rfl (rest := []) rfl (Nat.le_of_ble_eq_true rfl) dX5_say_2 ?_
  refine r_if_ne C (tgt := 11) dX5_say_5 rfl hf (fun hf => ?_) (fun hf => ?_)
  · refine r_aload_n C dX5_say_11 0 rfl rfl ?_
    refine bd1_e hf (fun r_1 hq hf => ?_)
    refine f_callI C K cal_RX5_175 ⟨rfl, rfl, Nat.le_of_ble_eq_true rfl, Nat.le_of_ble_eq_true rfl⟩ (t_X5_isCount _ hq) (mw_o0 E A _ _) rfl (mw_fst _ _ _ _ _ _) rfl (rest := []) rfl (Nat.le_of_ble_eq_true rfl) dX5_say_12 ?_
    refine r_if_ne C (tgt := 21) dX5_say_15 rfl hf (fun hf => ?_) (fun hf => ?_)
    · refine r_aload_n C dX5_say_21 0 rfl rfl ?_
      refine g_RX5_131_0 C K dX5_say_22 ?_
      refine r_sipush C dX5_say_25 ks_999 ?_
      refine r_icmp_ne C (tgt := 34) dX5_say_28 rfl hf (fun hf => ?_) (fun hf => ?_)
      · refine r_aload_n C dX5_say_34 0 rfl rfl ?_
        refine r_dup C dX5_say_35 rfl ?_
        refine g_RX5_131_0 C K dX5_say_36 ?_
        refine r_iconst C dX5_say_39 ki_1 ?_
        refine r_iadd C dX5_say_40 ?_
        refine p_RX5_131_0 C K dX5_say_41 hf (fun V_2 hf => ?_)
        refine r_aload_n C dX5_say_44 0 rfl rfl ?_
        refine r_aload_n C dX5_say_45 0 rfl rfl ?_
        refine g_RX5_7_0 C K dX5_say_46 ?_
        refine r_iload_n C dX5_say_49 1 rfl rfl ?_
        refine s_iald C K (mw_a3 E A _ _) dX5_say_50 hf (fun hf => ?_)
        refine bd3_e hf (fun r_3 V_4 L_5 hq hf => ?_)
        refine f_callI C K cal_RX5_179 ⟨rfl, rfl, Nat.le_of_ble_eq_true rfl, Nat.le_of_ble_eq_true rfl⟩ (t_X5_goCount _ (V_2 3 x1.toNatClampNeg) hq) (mw_o0 E A _ _) rfl (mw_fst _ _ _ _ _ _) rfl (rest := []) rfl (Nat.le_of_ble_eq_true rfl) dX5_say_51 ?_
        exact ri_OW hret hf dX5_say_54 rfl
      · refine r_bipush C dX5_say_31 kb_m104 ?_
        exact ri_OW hret hf dX5_say_33 rfl
    · refine r_bipush C dX5_say_18 kb_m103 ?_
      exact ri_OW hret hf dX5_say_20 rfl
  · refine r_bipush C dX5_say_8 kb_m101 ?_
    exact ri_OW hret hf dX5_say_10 rfl
theorem t_X5_say (l : Launch) {E : EvT} {A : Nat → Nat} {V : Nat → Nat → Int32} {L : Nat → Int64} (x1 : Int32) {r0 : Int32} {V0 : Nat → Nat → Int32} {L0 : Nat → Int64} (hq : f_X5_say V L x1 = some (r0, V0, L0)) : KI l yX5_say (.code yX5_say cX5_say 2 (some .int) :: wA) rm_X5_say E (mw E A V L) (mw E A V0 L0) [.ref (A 0), .int x1] r0 := by
  refine ent_I (own := RX5) (ty := .int) (lv0 := [(0, .ref (A 0)), (1, .int x1)]) (by decide) rfl rfl (Nat.le_of_ble_eq_true rfl) rfl (mw_fst _ _ _ _ _ _) ?_
  intro X Z Q hl C K hret
  exact w_X5_say_0 C K hret V L x1 hq
