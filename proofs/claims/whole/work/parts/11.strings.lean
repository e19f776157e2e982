/-- the JDK's own methods over the text constant: the heap stays as it is -/
def KS (l : Launch) (y : MethodName) (ws : List Cond) (rm : Room) (E : EvT) (av : List Value) (r : Int32) : Prop := Met l y ws rm (fun v U => v = av.toArray ∧ SE E (fun _ => False) U U.heap) (QcRead r) 0 0 (fun _ => False)
def Kj (X : XT) (E : EvT) : Prop := SE E (fun _ => False) X.2.2.2.2.1 X.2.2.2.2.1.heap
def kb (j : Nat) : Int32 := ([99, 116, 98, 115, 107] : List Int32).getD j 0
theorem q_c_mmin : Cond.code Lib.Math.min.name Lib.Math.min.code 2 (some .int) ∈ wA := wA_t 269 (by decide +kernel) rfl
section SJ
variable {X : XT} {hd : Cond} {cc : ByteArray} {nL : Nat} {own : String} {fr lo idx : Nat} {Q : State → Prop} {pc : Nat} {lv : List (Nat × Value)} {st rest : List Value} {E : EvT}
theorem j_gets (C : Cx X hd cc nL RJ0 fr lo) (K : Kj X E) (hdg : decode cc pc = .ok (.getstatic 38, 3)) (kk : Wm X nL (IP X) Q (pc + 3) lv (.int 1 :: st) ()) : Wm X nL (IP X) Q pc lv st () := by
  intro H locs ls hI hl
  obtain ⟨rfl, rfl⟩ := hI
  exact va_gets (C := "java/lang/String") (n := "COMPACT_STRINGS") (d := "Z") C.1 C.2.1 K.2.2 va_S.rf C.2.2.2.1 (C.2.2.2.2.1 _ (List.mem_cons_of_mem _ q_f_RJ0_38)) (fun _ h => h) hdg (kk _ _ ls ⟨rfl, rfl⟩ hl)
theorem j_coder (C : Cx X hd cc nL RJ0 fr lo) (K : Kj X E) (hdg : decode cc pc = .ok (.getfield 15, 3)) (kk : Wm X nL (IP X) Q (pc + 3) lv (.int 0 :: st) ()) : Wm X nL (IP X) Q pc lv (.ref (E.2.2.2.1 0) :: st) () := by
  intro H locs ls hI hl
  obtain ⟨rfl, rfl⟩ := hI
  exact vk_getf C.1 C.2.1 (K.2.1.1 0 (by decide)).2.1 va_S.rf C.2.2.2.1 (C.2.2.2.2.1 _ (List.mem_cons_of_mem _ q_f_RJ0_15)) (fun _ h => h) hdg (kk _ _ ls ⟨rfl, rfl⟩ hl)
theorem j_value (C : Cx X hd cc nL RJ0 fr lo) (K : Kj X E) (hdg : decode cc pc = .ok (.getfield 9, 3)) (kk : Wm X nL (IP X) Q (pc + 3) lv (.ref (E.2.2.2.2 0) :: st) ()) : Wm X nL (IP X) Q pc lv (.ref (E.2.2.2.1 0) :: st) () := by
  intro H locs ls hI hl
  obtain ⟨rfl, rfl⟩ := hI
  exact vk_getf C.1 C.2.1 (K.2.1.1 0 (by decide)).2.2.1 va_S.rf C.2.2.2.1 (C.2.2.2.2.1 _ (List.mem_cons_of_mem _ q_f_RJ0_9)) (fun _ h => h) hdg (kk _ _ ls ⟨rfl, rfl⟩ hl)
theorem j_alen (C : Cx X hd cc nL own fr lo) (K : Kj X E) (hdg : decode cc pc = .ok (.arraylength, 1)) (kk : Wm X nL (IP X) Q (pc + 1) lv (.int 5 :: st) ()) : Wm X nL (IP X) Q pc lv (.ref (E.2.2.2.2 0) :: st) () := by
  intro H locs ls hI hl
  obtain ⟨rfl, rfl⟩ := hI
  exact va_tlen C.1 C.2.1 (K.2.1.1 0 (by decide)).2.2.2 va_S.rf (v := 5) (by decide) hdg (kk _ _ ls ⟨rfl, rfl⟩ hl)
theorem j_bald (C : Cx X hd cc nL own fr lo) (K : Kj X E) {k : Nat} (hk : k < 5) (hdg : decode cc pc = .ok (.baload, 1)) (kk : Wm X nL (IP X) Q (pc + 1) lv (.int (kb k) :: st) ()) : Wm X nL (IP X) Q pc lv (.int (nI k) :: .ref (E.2.2.2.2 0) :: st) () := by
  intro H locs ls hI hl
  obtain ⟨rfl, rfl⟩ := hI
  exact va_tb C.1 C.2.1 (K.2.1.1 0 (by decide)).2.2.2 va_S.rf (vp_in_nI (show k < ([5] : List Nat).getD 0 0 from hk) (by decide)) (by rw [nI_clamp (by omega)]; rfl) hdg (kk _ _ ls ⟨rfl, rfl⟩ hl)
theorem r_mmin {S : Type} {I : S → Heap → List Loc → Prop} {σ : S} (C : Cx X hd cc nL own fr lo) (h1 : Cond.methodLink own idx Lib.Math.min.name ∈ wA) (h2 : Cond.static Lib.Math.min.name ∈ wA) (h3 : Cond.initialized "java/lang/Math" ∈ wA) (h4 : Cond.code Lib.Math.min.name Lib.Math.min.code 2 (some .int) ∈ wA) (hfr : 1 ≤ fr) (hlo : (st.map fun v => v.category).sum + 13 ≤ lo) {x y : Int32} (hdg : decode cc pc = .ok (.invokestatic idx, 3)) (kk : Wm X nL I Q (pc + 3) lv (.int (if y < x then y else x) :: st) σ) : Wm X nL I Q pc lv (.int y :: .int x :: st) σ := by
  have ok : ∀ w ∈ wA, w.before X.2.2.2.2.2.2.1 X.2.2.2.2.1 = true := fun w h => C.2.2.2.2.1 w (List.mem_cons_of_mem _ h)
  exact fun H locs ls hI hl => va_mmin C.1 C.2.1 (by rw [C.2.2.1]; exact hl.1.symm) C.2.2.2.1 (ok _ h1) (ok _ h2) (ok _ h3) (ok _ h4) (by rw [C.2.2.2.2.2.1]; exact hfr) (by rw [C.2.2.2.2.2.2]; exact hlo) (Nat.zero_le _) (Nat.zero_le _) hdg (kk H locs ls hI hl)
variable {y : MethodName} {bytes : ByteArray} {mL n : Nat} {rt : Option FieldType} {rm : Room} {As : List Value}
theorem KS_blind {av : List Value} : FrameBlind (fun v U => v = av.toArray ∧ SE E (fun _ => False) U U.heap) := fun a U g mk q => ⟨q.1, SE.same (u := U) rfl q.2⟩
/-- a call of a text's method, or of a static one, from a body without a heap -/
theorem j_callV (C : Cx X hd cc nL own fr lo) (K : Kj X E) (cal : Cal own idx RJ0 y bytes mL rt n) (hrm : Rmf rm mL fr lo) {r : Int32} (hM : KS X.2.1 y (.code y bytes mL rt :: wA) rm E (.ref (E.2.2.2.1 0) :: As) r) (hn : As.length = n) (hst : st = As.reverse ++ .ref (E.2.2.2.1 0) :: rest) (hrest : (rest.map fun v => v.category).sum ≤ 8) (hdg : decode cc pc = .ok (.invokevirtual idx, 3)) (kk : Wm X nL (IP X) Q (pc + 3) lv (.int r :: rest) ()) : Wm X nL (IP X) Q pc lv st () := by
  subst hst
  intro H locs ls hI hl
  obtain ⟨rfl, rfl⟩ := hI
  exact W.callR (W.runV (As := As) (rest := rest) ⟨C.1, C.2.1, C.2.2.1, C.2.2.2.1, C.2.2.2.2.1⟩ hM (cal_w C cal hrm) ⟨KS_blind, vk_recv K.2.1 (by decide) va_S.rf, fun U hU hW => ⟨rfl, by rw [hU]; exact SE.warm hW K⟩⟩ rfl hn hl.1 rfl (lv_room hrest) hdg ⟨Nat.zero_le _, Nat.zero_le _⟩) (kk _ _ ls ⟨rfl, rfl⟩ hl)
theorem j_callS (C : Cx X hd cc nL own fr lo) (K : Kj X E) (cas : Cas own idx y bytes mL rt n) (hrm : Rmf rm mL fr lo) {r : Int32} (hM : KS X.2.1 y (.code y bytes mL rt :: wA) rm E As r) (hn : As.length = n) (hst : st = As.reverse ++ rest) (hrest : (rest.map fun v => v.category).sum ≤ 8) (hdg : decode cc pc = .ok (.invokestatic idx, 3)) (kk : Wm X nL (IP X) Q (pc + 3) lv (.int r :: rest) ()) : Wm X nL (IP X) Q pc lv st () := by
  subst hst
  intro H locs ls hI hl
  obtain ⟨rfl, rfl⟩ := hI
  exact W.callR (W.runS (As := As) (rest := rest) ⟨C.1, C.2.1, C.2.2.1, C.2.2.2.1, C.2.2.2.2.1⟩ hM (cas_w C cas hrm) ⟨KS_blind, fun U hU hW => ⟨rfl, by rw [hU]; exact SE.warm hW K⟩⟩ rfl hn hl.1 rfl (lv_room hrest) hdg ⟨Nat.zero_le _, Nat.zero_le _⟩) (kk _ _ ls ⟨rfl, rfl⟩ hl)
end SJ
theorem ent_S {l : Launch} {y : MethodName} {cc : ByteArray} {nL : Nat} {rt : Option FieldType} {rm : Room} {E : EvT} {av : List Value} {lv0 : List (Nat × Value)} {own : String} {r : Int32} {ty : FieldType} (hy : plainName y.cls = true) (ho : y.cls = own) (hrt : rt = some ty) (hav : (lg_sl av).length ≤ nL) (hlv : lv_args 0 av = lv0)
    (body : ∀ (X : XT) (Q : State → Prop), X.2.1 = l → Cx X (.code y cc nL rt) cc nL own rm.frames rm.locals → Kj X E → (∀ (pc : Nat) (lv : List (Nat × Value)), decode cc pc = .ok (.ireturn, 1) → narrow ty (.int r) = .int r → Wm X nL (IP X) Q pc lv [.int r] ()) → Wm X nL (IP X) Q 0 lv0 [] ()) :
    KS l y (.code y cc nL rt :: wA) rm E av r := by
  refine Met.ofW (cc := cc) (maxL := nL) (ret := rt) hy rfl ?_
  intro p e s m args below meth c s₁ B hml hv
  obtain ⟨rfl, hE⟩ := hv
  have hx := B.exec
  have hb := B.bytes
  have hr := B.returns
  have hts := atoms_spec (ws := .code y cc nL rt :: wA) B.pre
  have hown : s.vm.findClass own = some m.cls := by rw [← ho]; exact findClass_of_methodNamed B.named
  have hlocks := B.notSynchronized
  have hl := lv_entry av (n := nL) hav
  rw [lg_entry_eq]
  rw [hlv] at hl
  refine body (p, l, e, _, s, m, av.toArray, below, meth, c) _ rfl ⟨hx, hb, hml, hown, hts, rfl, rfl⟩ hE ?_ s.heap [] _ ⟨rfl, rfl⟩ hl
  intro pc lv hdg hn H locs ls hI hl2
  obtain ⟨rfl, rfl⟩ := hI
  exact W.zret (v := r) (ty := ty) hx hb (hr.trans hrt) hn (fun t ht hW => ⟨rfl, ht⟩) (fun q h => by cases h) hdg
def rmj (f o : Nat) : Room := { frames := f, cells := 0, slots := 0, locals := o }
theorem t_J0_coder (l : Launch) {E : EvT} : KS l yJ0_coder_7d493 (.code yJ0_coder_7d493 cJ0_coder_7d493 1 (some .byte) :: wA) (rmj 0 0) E [.ref (E.2.2.2.1 0)] 0 := by
  refine ent_S (own := RJ0) (ty := .byte) (lv0 := [(0, .ref (E.2.2.2.1 0))]) (by decide) rfl rfl (Nat.le_of_ble_eq_true rfl) rfl ?_
  intro X Q hl C K hret
  refine j_gets C K dJ0_coder_7d493_0 ?_
  refine r_if_eq C (tgt := 13) (a := False) (b := True) (o := True) dJ0_coder_7d493_3 rfl (by decide) (fun h => absurd h (by decide)) (fun _ => ?_)
  refine r_aload_n C dJ0_coder_7d493_6 0 rfl rfl ?_
  refine j_coder C K dJ0_coder_7d493_7 ?_
  refine r_goto C (tgt := 14) dJ0_coder_7d493_10 rfl ?_
  exact hret _ _ dJ0_coder_7d493_14 rfl
theorem t_J0_isLatin1 (l : Launch) {E : EvT} : KS l yJ0_isLatin1_aae02 (.code yJ0_isLatin1_aae02 cJ0_isLatin1_aae02 1 (some .boolean) :: wA) (rmj 0 0) E [.ref (E.2.2.2.1 0)] 1 := by
  refine ent_S (own := RJ0) (ty := .boolean) (lv0 := [(0, .ref (E.2.2.2.1 0))]) (by decide) rfl rfl (Nat.le_of_ble_eq_true rfl) rfl ?_
  intro X Q hl C K hret
  refine j_gets C K dJ0_isLatin1_aae02_0 ?_
  refine r_if_eq C (tgt := 17) (a := False) (b := True) (o := True) dJ0_isLatin1_aae02_3 rfl (by decide) (fun h => absurd h (by decide)) (fun _ => ?_)
  refine r_aload_n C dJ0_isLatin1_aae02_6 0 rfl rfl ?_
  refine j_coder C K dJ0_isLatin1_aae02_7 ?_
  refine r_if_ne C (tgt := 17) (a := True) (b := False) (o := True) dJ0_isLatin1_aae02_10 rfl (by decide) (fun h => absurd h (by decide)) (fun _ => ?_)
  refine r_iconst C dJ0_isLatin1_aae02_13 ki_1 ?_
  refine r_goto C (tgt := 18) dJ0_isLatin1_aae02_14 rfl ?_
  exact hret _ _ dJ0_isLatin1_aae02_18 rfl
theorem cal_J0_335 : Cal RJ0 335 RJ0 yJ0_coder_7d493 cJ0_coder_7d493 1 (some .byte) 0 := ⟨q_m_RJ0_335, q_i_yJ0_coder_7d493, q_s_yJ0_coder_7d493, q_in_RJ0, q_c_yJ0_coder_7d493, by decide +kernel⟩
theorem cal_J0_492 : Cal RJ0 492 RJ0 yJ0_isLatin1_aae02 cJ0_isLatin1_aae02 1 (some .boolean) 0 := ⟨q_m_RJ0_492, q_i_yJ0_isLatin1_aae02, q_s_yJ0_isLatin1_aae02, q_in_RJ0, q_c_yJ0_isLatin1_aae02, by decide +kernel⟩
theorem cal_J0_505 : Cal RJ0 505 RJ0 yJ0_length_8abf5 cJ0_length_8abf5 1 (some .int) 0 := ⟨q_m_RJ0_505, q_i_yJ0_length_8abf5, q_s_yJ0_length_8abf5, q_in_RJ0, q_c_yJ0_length_8abf5, by decide +kernel⟩
theorem cal_J0_633 : Cal RJ0 633 RJ0 yJ0_indexOf_7cf53 cJ0_indexOf_7cf53 3 (some .int) 2 := ⟨q_m_RJ0_633, q_i_yJ0_indexOf_7cf53, q_s_yJ0_indexOf_7cf53, q_in_RJ0, q_c_yJ0_indexOf_7cf53, by decide +kernel⟩
theorem cal_X2_59 : Cal RX2 59 RJ0 yJ0_indexOf_0f7a4 cJ0_indexOf_0f7a4 2 (some .int) 1 := ⟨q_m_RX2_59, q_i_yJ0_indexOf_0f7a4, q_s_yJ0_indexOf_0f7a4, q_in_RJ0, q_c_yJ0_indexOf_0f7a4, by decide +kernel⟩
theorem cas_J0_637 : Cas RJ0 637 yJ1_indexOf_4cfef cJ1_indexOf_4cfef 4 (some .int) 4 := ⟨q_m_RJ0_637, q_st_yJ1_indexOf_4cfef, q_in_RJ1, q_c_yJ1_indexOf_4cfef, by decide +kernel⟩
theorem cas_J1_88 : Cas RJ1 88 yJ1_canEncode_9a6ad cJ1_canEncode_9a6ad 1 (some .boolean) 1 := ⟨q_m_RJ1_88, q_st_yJ1_canEncode_9a6ad, q_in_RJ1, q_c_yJ1_canEncode_9a6ad, by decide +kernel⟩
theorem cas_J1_95 : Cas RJ1 95 yJ1_indexOfChar_4cfef cJ1_indexOfChar_4cfef 6 (some .int) 4 := ⟨q_m_RJ1_95, q_st_yJ1_indexOfChar_4cfef, q_in_RJ1, q_c_yJ1_indexOfChar_4cfef, by decide +kernel⟩
theorem t_J0_length (l : Launch) {E : EvT} : KS l yJ0_length_8abf5 (.code yJ0_length_8abf5 cJ0_length_8abf5 1 (some .int) :: wA) (rmj 1 20) E [.ref (E.2.2.2.1 0)] 5 := by
  refine ent_S (own := RJ0) (ty := .int) (lv0 := [(0, .ref (E.2.2.2.1 0))]) (by decide) rfl rfl (Nat.le_of_ble_eq_true rfl) rfl ?_
  intro X Q hl C K hret
  refine r_aload_n C dJ0_length_8abf5_0 0 rfl rfl ?_
  refine j_value C K dJ0_length_8abf5_1 ?_
  refine j_alen C K dJ0_length_8abf5_4 ?_
  refine r_aload_n C dJ0_length_8abf5_5 0 rfl rfl ?_
  refine j_callV C K cal_J0_335 ⟨rfl, rfl, Nat.le_of_ble_eq_true rfl, Nat.le_of_ble_eq_true rfl⟩ (t_J0_coder _) rfl (rest := [.int 5]) rfl (Nat.le_of_ble_eq_true rfl) dJ0_length_8abf5_6 ?_
  refine r_ishr C dJ0_length_8abf5_9 ?_
  rw [show (5 : Int32) >>> ((0 : Int32) &&& 31) = 5 by decide]
  exact hret _ _ dJ0_length_8abf5_10 rfl
def gx (b : Int32) : Nat → Nat → Int32
  | _, 0 => -1
  | k, m + 1 => if kb k = b then nI k else gx b (k + 1) m
theorem j_loop {X : XT} {E : EvT} {Q : State → Prop} {fr lo : Nat} {r x1 b : Int32} (C : Cx X (.code yJ1_indexOfChar_4cfef cJ1_indexOfChar_4cfef 6 (some .int)) cJ1_indexOfChar_4cfef 6 RJ1 fr lo) (K : Kj X E) (hret : ∀ (pc : Nat) (lv : List (Nat × Value)), decode cJ1_indexOfChar_4cfef pc = .ok (.ireturn, 1) → narrow .int (.int r) = .int r → Wm X 6 (IP X) Q pc lv [.int r] ()) :
    ∀ (m k : Nat), k + m = 5 → gx b k m = r → Wm X 6 (IP X) Q 7 [(5, .int (nI k)), (4, .int b), (0, .ref (E.2.2.2.2 0)), (1, .int x1), (2, .int 0), (3, .int 5)] [] () := by
  intro m
  induction m with
  | zero =>
    intro k hk hf
    have hk5 : k = 5 := by omega
    subst hk5
    refine r_iload C dJ1_indexOfChar_4cfef_7 0 rfl ?_
    refine r_iload_n C dJ1_indexOfChar_4cfef_9 5 rfl rfl ?_
    refine r_icmp_ge C (tgt := 31) (a := True) (b := False) (o := True) dJ1_indexOfChar_4cfef_10 rfl (by decide) (fun _ => ?_) (fun h => absurd h (by decide))
    refine r_iconst C dJ1_indexOfChar_4cfef_31 ki_m1 ?_
    have hr : (-1 : Int32) = r := hf
    rw [hr]
    exact hret _ _ dJ1_indexOfChar_4cfef_32 rfl
  | succ m ih =>
    intro k hk hf
    rw [gx] at hf
    refine r_iload C dJ1_indexOfChar_4cfef_7 0 rfl ?_
    refine r_iload_n C dJ1_indexOfChar_4cfef_9 5 rfl rfl ?_
    refine r_icmp_ge C (tgt := 31) (a := False) (b := True) (o := True) dJ1_indexOfChar_4cfef_10 rfl (if_neg (nI_ge (show k < 5 by omega) (by decide))) (fun h => h.symm ▸ trivial |> fun _ => absurd h (by decide)) (fun _ => ?_)
    refine r_aload_n C dJ1_indexOfChar_4cfef_13 2 rfl rfl ?_
    refine r_iload C dJ1_indexOfChar_4cfef_14 0 rfl ?_
    refine j_bald C K (show k < 5 by omega) dJ1_indexOfChar_4cfef_16 ?_
    refine r_iload C dJ1_indexOfChar_4cfef_17 1 rfl ?_
    refine r_icmp_ne C (tgt := 25) dJ1_indexOfChar_4cfef_19 rfl hf (fun hf => ?_) (fun hf => ?_)
    · refine r_iinc C dJ1_indexOfChar_4cfef_25 0 rfl (v := nI (k + 1)) (by rw [kn_1, nI_1]) (Nat.le_of_ble_eq_true rfl) (lv2 := [(5, .int (nI (k + 1))), (4, .int b), (0, .ref (E.2.2.2.2 0)), (1, .int x1), (2, .int 0), (3, .int 5)]) rfl ?_
      refine r_goto C (tgt := 7) dJ1_indexOfChar_4cfef_28 rfl ?_
      exact ih (k + 1) (by omega) hf
    · refine r_iload C dJ1_indexOfChar_4cfef_22 0 rfl ?_
      rw [hf]
      exact hret _ _ dJ1_indexOfChar_4cfef_24 rfl
theorem t_J1_indexOfChar (l : Launch) {E : EvT} (x1 : Int32) : KS l yJ1_indexOfChar_4cfef (.code yJ1_indexOfChar_4cfef cJ1_indexOfChar_4cfef 6 (some .int) :: wA) (rmj 0 0) E [.ref (E.2.2.2.2 0), .int x1, .int 0, .int 5] (gx (i2b x1) 0 5) := by
  refine ent_S (own := RJ1) (ty := .int) (lv0 := [(0, .ref (E.2.2.2.2 0)), (1, .int x1), (2, .int 0), (3, .int 5)]) (by decide) rfl rfl (Nat.le_of_ble_eq_true rfl) rfl ?_
  intro X Q hl C K hret
  refine r_iload_n C dJ1_indexOfChar_4cfef_0 1 rfl rfl ?_
  refine p_i2b C dJ1_indexOfChar_4cfef_1 ?_
  refine r_istore C dJ1_indexOfChar_4cfef_2 (Nat.le_of_ble_eq_true rfl) (lv2 := [(4, .int (i2b x1)), (0, .ref (E.2.2.2.2 0)), (1, .int x1), (2, .int 0), (3, .int 5)]) rfl ?_
  refine r_iload_n C dJ1_indexOfChar_4cfef_4 3 rfl rfl ?_
  refine r_istore C dJ1_indexOfChar_4cfef_5 (Nat.le_of_ble_eq_true rfl) (lv2 := [(5, .int 0), (4, .int (i2b x1)), (0, .ref (E.2.2.2.2 0)), (1, .int x1), (2, .int 0), (3, .int 5)]) rfl ?_
  have h := j_loop (x1 := x1) (b := i2b x1) C K hret 5 0 rfl rfl
  rw [nI_0] at h
  exact h
def fx (x : Int32) : Int32 := if f_J1_canEncode_9a6ad x = 0 then -1 else gx (i2b x) 0 5
theorem t_J1_indexOf (l : Launch) {E : EvT} (x1 : Int32) : KS l yJ1_indexOf_4cfef (.code yJ1_indexOf_4cfef cJ1_indexOf_4cfef 4 (some .int) :: wA) (rmj 1 60) E [.ref (E.2.2.2.2 0), .int x1, .int 0, .int 5] (fx x1) := by
  refine ent_S (own := RJ1) (ty := .int) (lv0 := [(0, .ref (E.2.2.2.2 0)), (1, .int x1), (2, .int 0), (3, .int 5)]) (by decide) rfl rfl (Nat.le_of_ble_eq_true rfl) rfl ?_
  intro X Q hl C K hret
  refine r_iload_n C dJ1_indexOf_4cfef_0 1 rfl rfl ?_
  refine r_callP C cas_J1_88 ⟨rfl, rfl, Nat.le_of_ble_eq_true rfl, Nat.le_of_ble_eq_true rfl⟩ (t_J1_canEncode_9a6ad _ x1) rfl (rest := []) rfl (Nat.le_of_ble_eq_true rfl) dJ1_indexOf_4cfef_1 ?_
  refine r_if_ne C (tgt := 9) dJ1_indexOf_4cfef_4 rfl (show (if f_J1_canEncode_9a6ad x1 = 0 then -1 else gx (i2b x1) 0 5) = fx x1 from rfl) (fun hf => ?_) (fun hf => ?_)
  · refine r_iload_n C dJ1_indexOf_4cfef_9 2 rfl rfl ?_
    refine r_iconst C dJ1_indexOf_4cfef_10 ki_0 ?_
    refine r_mmax C q_m_RJ1_92 q_st_yJ9_max_7cf53 q_in_RJ9 q_c_mmax (Nat.le_of_ble_eq_true rfl) (Nat.le_of_ble_eq_true rfl) dJ1_indexOf_4cfef_11 ?_
    rw [show imax 0 0 = 0 by decide]
    refine r_istore_n C dJ1_indexOf_4cfef_14 rfl (Nat.le_of_ble_eq_true rfl) (lv2 := [(2, .int 0), (0, .ref (E.2.2.2.2 0)), (1, .int x1), (3, .int 5)]) rfl ?_
    refine r_iload_n C dJ1_indexOf_4cfef_15 3 rfl rfl ?_
    refine r_aload_n C dJ1_indexOf_4cfef_16 1 rfl rfl ?_
    refine j_alen C K dJ1_indexOf_4cfef_17 ?_
    refine r_mmin C q_m_RJ1_38 q_st_yJ9_min_7cf53 q_in_RJ9 q_c_mmin (Nat.le_of_ble_eq_true rfl) (Nat.le_of_ble_eq_true rfl) dJ1_indexOf_4cfef_18 ?_
    rw [show (if (5 : Int32) < 5 then (5 : Int32) else 5) = 5 by decide]
    refine r_istore_n C dJ1_indexOf_4cfef_21 rfl (Nat.le_of_ble_eq_true rfl) (lv2 := [(3, .int 5), (2, .int 0), (0, .ref (E.2.2.2.2 0)), (1, .int x1)]) rfl ?_
    refine r_iload_n C dJ1_indexOf_4cfef_22 1 rfl rfl ?_
    refine r_iload_n C dJ1_indexOf_4cfef_23 0 rfl rfl ?_
    refine r_icmp_lt C (tgt := 29) (a := True) (b := False) (o := True) dJ1_indexOf_4cfef_24 rfl (by decide) (fun _ => ?_) (fun h => absurd h (by decide))
    refine r_aload_n C dJ1_indexOf_4cfef_29 2 rfl rfl ?_
    refine r_iload_n C dJ1_indexOf_4cfef_30 3 rfl rfl ?_
    refine r_iload_n C dJ1_indexOf_4cfef_31 1 rfl rfl ?_
    refine r_iload_n C dJ1_indexOf_4cfef_32 0 rfl rfl ?_
    refine j_callS C K cas_J1_95 ⟨rfl, rfl, Nat.le_of_ble_eq_true rfl, Nat.le_of_ble_eq_true rfl⟩ (t_J1_indexOfChar _ x1) rfl (rest := []) rfl (Nat.le_of_ble_eq_true rfl) dJ1_indexOf_4cfef_33 ?_
    rw [hf]
    exact hret _ _ dJ1_indexOf_4cfef_36 rfl
  · refine r_iconst C dJ1_indexOf_4cfef_7 ki_m1 ?_
    rw [hf]
    exact hret _ _ dJ1_indexOf_4cfef_8 rfl
theorem t_J0_indexOf2 (l : Launch) {E : EvT} (x1 : Int32) : KS l yJ0_indexOf_7cf53 (.code yJ0_indexOf_7cf53 cJ0_indexOf_7cf53 3 (some .int) :: wA) (rmj 2 100) E [.ref (E.2.2.2.1 0), .int x1, .int 0] (fx x1) := by
  refine ent_S (own := RJ0) (ty := .int) (lv0 := [(0, .ref (E.2.2.2.1 0)), (1, .int x1), (2, .int 0)]) (by decide) rfl rfl (Nat.le_of_ble_eq_true rfl) rfl ?_
  intro X Q hl C K hret
  refine r_aload_n C dJ0_indexOf_7cf53_0 0 rfl rfl ?_
  refine j_callV C K cal_J0_492 ⟨rfl, rfl, Nat.le_of_ble_eq_true rfl, Nat.le_of_ble_eq_true rfl⟩ (t_J0_isLatin1 _) rfl (rest := []) rfl (Nat.le_of_ble_eq_true rfl) dJ0_indexOf_7cf53_1 ?_
  refine r_if_eq C (tgt := 23) (a := False) (b := True) (o := True) dJ0_indexOf_7cf53_4 rfl (by decide) (fun h => absurd h (by decide)) (fun _ => ?_)
  refine r_aload_n C dJ0_indexOf_7cf53_7 0 rfl rfl ?_
  refine j_value C K dJ0_indexOf_7cf53_8 ?_
  refine r_iload_n C dJ0_indexOf_7cf53_11 1 rfl rfl ?_
  refine r_iload_n C dJ0_indexOf_7cf53_12 2 rfl rfl ?_
  refine r_aload_n C dJ0_indexOf_7cf53_13 0 rfl rfl ?_
  refine j_callV C K cal_J0_505 ⟨rfl, rfl, Nat.le_of_ble_eq_true rfl, Nat.le_of_ble_eq_true rfl⟩ (t_J0_length _) rfl (rest := [.int 0, .int x1, .ref (E.2.2.2.2 0)]) rfl (Nat.le_of_ble_eq_true rfl) dJ0_indexOf_7cf53_14 ?_
  refine j_callS C K cas_J0_637 ⟨rfl, rfl, Nat.le_of_ble_eq_true rfl, Nat.le_of_ble_eq_true rfl⟩ (t_J1_indexOf _ x1) rfl (rest := []) rfl (Nat.le_of_ble_eq_true rfl) dJ0_indexOf_7cf53_17 ?_
  refine r_goto C (tgt := 36) dJ0_indexOf_7cf53_20 rfl ?_
  exact hret _ _ dJ0_indexOf_7cf53_36 rfl
theorem t_J0_indexOf (l : Launch) {E : EvT} (x1 : Int32) : KS l yJ0_indexOf_0f7a4 (.code yJ0_indexOf_0f7a4 cJ0_indexOf_0f7a4 2 (some .int) :: wA) (rmj 3 140) E [.ref (E.2.2.2.1 0), .int x1] (fx x1) := by
  refine ent_S (own := RJ0) (ty := .int) (lv0 := [(0, .ref (E.2.2.2.1 0)), (1, .int x1)]) (by decide) rfl rfl (Nat.le_of_ble_eq_true rfl) rfl ?_
  intro X Q hl C K hret
  refine r_aload_n C dJ0_indexOf_0f7a4_0 0 rfl rfl ?_
  refine r_iload_n C dJ0_indexOf_0f7a4_1 1 rfl rfl ?_
  refine r_iconst C dJ0_indexOf_0f7a4_2 ki_0 ?_
  refine j_callV C K cal_J0_633 ⟨rfl, rfl, Nat.le_of_ble_eq_true rfl, Nat.le_of_ble_eq_true rfl⟩ (t_J0_indexOf2 _ x1) rfl (rest := []) rfl (Nat.le_of_ble_eq_true rfl) dJ0_indexOf_0f7a4_3 ?_
  exact hret _ _ dJ0_indexOf_0f7a4_6 rfl
theorem fx_small : ∀ k, k < 256 → fx (nI k) = f_indexOf (nI k) := by decide +kernel
theorem fx_eq (x : Int32) : fx x = f_indexOf x := by
  by_cases h0 : x < 0
  · have h1 : fx x = -1 := by unfold fx f_J1_canEncode_9a6ad; rw [if_pos h0, if_pos rfl]
    rw [h1]
    have ne : ∀ k : Nat, k < 128 → ¬ x = nI k := fun k hk e => nI_pos (n := k) (by omega) (e ▸ h0)
    unfold f_indexOf
    rw [if_neg (show ¬ x = 99 from ne 99 (by decide)), if_neg (show ¬ x = 116 from ne 116 (by decide)), if_neg (show ¬ x = 98 from ne 98 (by decide)), if_neg (show ¬ x = 115 from ne 115 (by decide)), if_neg (show ¬ x = 107 from ne 107 (by decide))]
  · obtain ⟨k, hk, rfl⟩ := nI_of h0
    by_cases h2 : k < 256
    · exact fx_small k h2
    · have h3 : (255 : Int32) < nI k := nI_lt (show 255 < k by omega) hk
      have h1 : fx (nI k) = -1 := by unfold fx f_J1_canEncode_9a6ad; rw [if_neg h0, if_pos h3, if_pos rfl]
      rw [h1]
      have ne : ∀ j : Nat, j < 128 → ¬ nI k = nI j := fun j hj e => by
        have := (nI_eq hk (show j < 2 ^ 31 by omega)).mp e
        omega
      unfold f_indexOf
      rw [if_neg (show ¬ nI k = 99 from ne 99 (by decide)), if_neg (show ¬ nI k = 116 from ne 116 (by decide)), if_neg (show ¬ nI k = 98 from ne 98 (by decide)), if_neg (show ¬ nI k = 115 from ne 115 (by decide)), if_neg (show ¬ nI k = 107 from ne 107 (by decide))]
section STR
variable {X : XT} {hd : Cond} {cc : ByteArray} {nL : Nat} {fr lo : Nat} {Q : State → Prop} {pc : Nat} {lv : List (Nat × Value)} {st rest : List Value} {E : EvT} {Z : Nat → Prop} {A : Nat → Nat} {V : Nat → Nat → Int32} {L : Nat → Int64}
theorem r_ldcS (C : Cx X hd cc nL RX2 fr lo) (K : Ck X E Z) (hdg : decode cc pc = .ok (.ldc 57, 2)) (kk : Wm X nL (IF X E Z (cw E A)) Q (pc + 2) lv (.ref (E.2.2.2.1 0) :: st) (V, L)) : Wm X nL (IF X E Z (cw E A)) Q pc lv st (V, L) :=
  fun H locs ls hI hl => va_ldcS C.1 C.2.1 C.2.2.2.1 K.2.2.1.1 hdg (kk H locs ls hI hl)
theorem s_indexOf (C : Cx X hd cc nL RX2 fr lo) (K : Ck X E Z) (hfr : 20 ≤ fr) (hlo : 600 ≤ lo) {x : Int32} (hrest : (rest.map fun v => v.category).sum ≤ 8) (hdg : decode cc pc = .ok (.invokevirtual 59, 3)) (kk : Wm X nL (IF X E Z (cw E A)) Q (pc + 3) lv (.int (f_indexOf x) :: rest) (V, L)) : Wm X nL (IF X E Z (cw E A)) Q pc lv (.int x :: .ref (E.2.2.2.1 0) :: rest) (V, L) := by
  intro H locs ls hI hl
  rw [← fx_eq] at kk
  exact W.callR (W.runV (As := [.int x]) (rest := rest) ⟨C.1, C.2.1, C.2.2.1, C.2.2.2.1, C.2.2.2.2.1⟩ (t_J0_indexOf _ x) (cal_w C cal_X2_59 ⟨rfl, rfl, Nat.le_trans (Nat.le_of_ble_eq_true rfl) hfr, Nat.le_trans (Nat.le_of_ble_eq_true rfl) hlo⟩) ⟨KS_blind, vk_recv K.2.2.1.2.1 (by decide) hI.2.2, fun U hU hW => ⟨rfl, by
    rw [hU]
    exact ((K.2.2.1.warm hW).kept (fun a h1 h2 => hI.2.2.2.1 a h1 h2)).narrow (fun _ h => h.elim)⟩⟩ rfl rfl hl.1 rfl (lv_room hrest) hdg ⟨Nat.zero_le _, Nat.zero_le _⟩) (kk H locs ls hI hl)
end STR
