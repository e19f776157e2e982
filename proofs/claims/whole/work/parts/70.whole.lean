/-! THE CLAIM OUT OF ONE WALK OF THE LAW'S BODY. Your part is whole_start (and what it stands on); all else here is the same for every law, but numbers. -/
def R_law : String := "CountOutLaw"
def lw_P (b : Addr) (xs : List Int32) (args : Array Value) (s : State) : Prop := args = #[.ref b] ∧ s.IntsAt b xs ∧ xs.length ≤ 2048 ∧ (Jvm.Cond.and given_1 narrow_1).before args s = true
def lw_Q (_ : Array Value) (s : State) (o : Outcome) (t : State) : Prop := o = .returned (some (.int 1)) ∧ Framed s o t [] 600000 7302250
def lw_Z (below : List Frame) (a : Array Value) (s : State) : State → Prop := fun t => ∃ o, t.status = .running ∧ Ended t below o ∧ lw_Q a s o t
/-- the law's own end, with 1 on the stack, nothing written that was there before, its room as the claim has it -/
theorem lw_ret {p : Program} {l : Launch} {e : Env} {s : State} {m : MethodId} {below : List Frame} {meth : Method} {c : Code} {b : Nat} (hx : p.tables.exec = Jvm.exec) (hb : c.code = code) (hr : meth.sig.returnType = ret) (hlocks : meth.locks = false) {pc : Nat} {H : Heap} {ls : Array Slot} (hdg : decode code pc = .ok (.ireturn, 1)) : W p l e room_1 s m #[Value.ref b] below meth c H [] 600000 7302250 (lw_Z below #[Value.ref b] s) (F0 m pc ls [.int 1]) := by
  intro T hT X
  obtain ⟨fs, hret, hrun, hended, hW, hframe⟩ := X.leave (v := some (.int 1)) (hlocks := hlocks) (fun h => by rw [hr] at h; cases h)
  have hmeth' : T.vm.method? m = some meth := X.method'
  refine ⟨T.setFrames fs, ?_, .returned (some (.int 1)), hrun, hended, rfl, ⟨_, rfl⟩, hW, hframe⟩
  jvm_step X.here [X.here.top, hx, hb, hdg, hmeth', hr, ret, narrow_b1]
  (try refine ⟨rfl, ?_⟩); (try refine ⟨rfl, ?_⟩)
  first | (intro acts; rw [hret _ acts rfl rfl rfl]) | rw [hret _ _ rfl rfl rfl]
  exact Steps.refl _
/-- what holds at the law's entry: the machine, the code, the tables' words (any of lw_tbl by 'hts w (by decide +kernel)'), the script of L ints xs at the cell b, what the Statement gives of the start (any of its parts by flat_of_before) -/
def lw_At (p : Program) (s : State) (m : MethodId) (meth : Method) (c : Code) (b L : Nat) (xs : Nat → Int32) : Prop :=
  p.tables.exec = Jvm.exec ∧ c.code = code ∧ meth.sig.returnType = ret ∧ c.maxLocals = 4 ∧ s.vm.findClass R_law = some m.cls ∧ (∀ w ∈ lw_tbl, w.before #[Value.ref b] s = true) ∧ va_X b L xs s s.heap ∧ b < s.heap.size ∧ meth.locks = false ∧ (Jvm.Cond.and given_1 narrow_1).before #[Value.ref b] s = true
theorem sim_all : Sim Rel := ⟨fun N V L V2 L2 h => by
  obtain ⟨s, q, ρ, n, K, T, B, Y, G, st, nv, bt, ct, sn, sf, so, h⟩ := h
  exact h.up L2, sim_letter, sim_blank, sim_fault, sim_ring, sim_child, sim_as, sim_verse, sim_say, sim_back, sim_first, sim_turn, sim_beats, sim_be, sim_last, sim_begin, sim_stand, sim_game, sim_likely, sim_see, sim_forget, sim_lengths, sim_from, sim_rounds, sim_image, sim_restore, sim_count, sim_digest⟩
/-- the environment of the start -/
theorem env_ex {args : Array Value} {s : State} (hts : ∀ w ∈ lw_tbl, w.before args s = true) (hgv : (Jvm.Cond.and given_1 narrow_1).before args s = true) (Z : Nat → Prop) (hZ : ∀ a : Nat, a < s.heap.size → ¬ Z a) : ∃ E : EvT, va_K E.1 vwCl (tyE E) s ∧ NW s ∧ NM s ∧ SE E Z s s.heap := by
  have hw : ∀ w ∈ wA, w.before args s = true := fun w h => hts w (wA_tbl h)
  have htb : ∀ w ∈ tables_1, w.before args s = true := fun w h => hts w (List.mem_append_right _ h)
  obtain ⟨c0, i0, k0⟩ := u_known (C := RX0) (T := TX0) (N := 9) (n := 9) hw inWX0 (hw _ q_new_RX0)
  obtain ⟨c1, i1, k1⟩ := u_known (C := RX1) (T := TX1) (N := 8) (n := 8) hw inWX1 (hw _ q_new_RX1)
  obtain ⟨c2, i2, k2⟩ := u_known (C := RX2) (T := TX2) (N := 8) (n := 8) hw inWX2 (hw _ q_new_RX2)
  obtain ⟨c3, i3, k3⟩ := u_known (C := RX3) (T := TX3) (N := 7) (n := 7) hw inWX3 (hw _ q_new_RX3)
  obtain ⟨c4, i4, k4⟩ := u_known (C := RX4) (T := TX4) (N := 6) (n := 6) hw inWX4 (hw _ q_new_RX4)
  obtain ⟨c5, i5, k5⟩ := u_known (C := RX5) (T := TX5) (N := 50) (n := 50) hw inWX5 (hw _ q_new_RX5)
  obtain ⟨cI, kI, mI, hI1, hI2, hI3⟩ := Cond.arrayClass_spec (hw _ q_arr_int)
  obtain ⟨cB, kB, mB, hB1, hB2, hB3⟩ := Cond.arrayClass_spec (hw _ q_arr_byte)
  have hs := flat_of_before _ hgv
  have hel : ∀ j : Nat, j < 5 → (Cond.eq (.elem (.field (.string "CountOut$Page" 57) "java/lang/String" "value" "[B") (.int (Int32.ofNat j))) (.int (([99, 116, 98, 115, 107] : List Int32).getD j 0))).before args s = true := by
    intro j hj
    have h5 : j = 0 ∨ j = 1 ∨ j = 2 ∨ j = 3 ∨ j = 4 := by omega
    rcases h5 with rfl | rfl | rfl | rfl | rfl
    · exact hs (Cond.eq (.elem (.field (.string "CountOut$Page" 57) "java/lang/String" "value" "[B") (.int 0)) (.int 99)) (by decide +kernel)
    · exact hs (Cond.eq (.elem (.field (.string "CountOut$Page" 57) "java/lang/String" "value" "[B") (.int 1)) (.int 116)) (by decide +kernel)
    · exact hs (Cond.eq (.elem (.field (.string "CountOut$Page" 57) "java/lang/String" "value" "[B") (.int 2)) (.int 98)) (by decide +kernel)
    · exact hs (Cond.eq (.elem (.field (.string "CountOut$Page" 57) "java/lang/String" "value" "[B") (.int 3)) (.int 115)) (by decide +kernel)
    · exact hs (Cond.eq (.elem (.field (.string "CountOut$Page" 57) "java/lang/String" "value" "[B") (.int 4)) (.int 107)) (by decide +kernel)
  have z0 : ∀ {i : Nat}, i < 1 → i = 0 := fun h => by omega
  obtain ⟨adK, adV, hS, hE⟩ := vk_Sof (args := args) (s := s) (N := 1) (tm := fun _ => .string "CountOut$Page" 57) (len := [5]) (byt := [[99, 116, 98, 115, 107]]) (A := Z)
    (fun i hi => by rw [z0 hi]; decide)
    (fun i hi => hs (Cond.exactly (.string "CountOut$Page" 57) "java/lang/String") (by decide +kernel))
    (fun i hi => hs (Cond.eq (.field (.string "CountOut$Page" 57) "java/lang/String" "coder" "B") (.int 0)) (by decide +kernel))
    (fun i hi => hs (Cond.arrayOf (.field (.string "CountOut$Page" 57) "java/lang/String" "value" "[B") .byte) (by decide +kernel))
    (fun i hi => by rw [z0 hi]; exact hs (Cond.eq (.length (.field (.string "CountOut$Page" 57) "java/lang/String" "value" "[B")) (.int 5)) (by decide +kernel))
    (fun i hi j hj => by rw [z0 hi] at hj ⊢; exact hel j hj)
    (fun i j hi hj hij => absurd ((z0 hi).trans (z0 hj).symm) hij) hZ
  have hV : va_Z "java/lang/String" "COMPACT_STRINGS" "Z" (.int 1) Z s s.heap := va_Zof (args := args) (htb _ (List.mem_of_getElem? (i := 249) (by decide +kernel))) (hw _ q_in_RJ0) (va_eqi (hs (Cond.eq (.static "java/lang/String" "COMPACT_STRINGS" "Z") (.int 1)) (by decide +kernel))) hZ
  refine ⟨((fun k => if k = 0 then c0 else if k = 1 then c1 else if k = 2 then c2 else if k = 3 then c3 else if k = 4 then c4 else c5, fun k => if k = 0 then i0 else if k = 1 then i1 else if k = 2 then i2 else if k = 3 then i3 else if k = 4 then i4 else i5), cI, cB, adK, adV), ⟨?_, ?_⟩, NW.of htb, NM.of htb, vk_R.of (A := args) (htb _ (List.mem_of_getElem? (i := 235) (by decide +kernel))) (hE 0 (by omega)), hS, hV⟩
  · intro k q hq
    match k, hq with
    | 0, hq => cases hq; exact k0
    | 1, hq => cases hq; exact k1
    | 2, hq => cases hq; exact k2
    | 3, hq => cases hq; exact k3
    | 4, hq => cases hq; exact k4
    | 5, hq => cases hq; exact k5
    | k + 6, hq => simp [vwCl] at hq
  · intro k q hq
    match k, hq with
    | 0, hq => cases hq; exact ⟨fun n z => ⟨fun k h => (by cases h), kI, hI2, mI, hI3⟩, hI1⟩
    | 1, hq => cases hq; exact ⟨fun n z => ⟨fun k h => (by cases h), kB, hB2, mB, hB3⟩, hB1⟩
    | k + 2, hq => simp [tyE] at hq
set_option maxRecDepth 100000 in
theorem law_main {X : XT} {hd : Cond} {Q : State → Prop} {E : EvT} {Z : Nat → Prop} {b L : Nat} {xs : Nat → Int32} (C : Cx X hd code 4 RL 2048 84000) (K : Ck X E Z) (KM : NM X.2.2.2.2.1) (hX : va_X b L xs X.2.2.2.2.1 X.2.2.2.2.1.heap) (hbl : b < X.2.2.2.2.1.heap.size) (hbA : ¬ Z b) (hL : L ≤ 2048) (hcells : X.2.2.2.1.cells = 600000) (hslots : X.2.2.2.1.slots = 7302250) (hend : ∀ (lv : List (Nat × Value)) (w : va_W), Wn X 4 E Z Q 43 2665 814 lv [] w) : Wn X 4 E Z Q 0 0 0 [(0, .ref b)] [] [] := by
  refine n_new C K.1 K.2.2.2 (ci := 4) (fs := [.null, .null, .null, .null, .int 0, .int 0]) inWX4 tyX4 tyX4_ok rfl q_cl_RL_7 q_new_RX4 q_in_RX4 (fun j hj => by rcases (show j = 0 ∨ j = 1 ∨ j = 2 ∨ j = 3 ∨ j = 4 ∨ j = 5 by omega) with rfl | rfl | rfl | rfl | rfl | rfl <;> rfl) (by rw [hcells]; exact (Nat.le_of_ble_eq_true rfl)) (by rw [hslots]; exact (Nat.le_of_ble_eq_true rfl)) dL_law_0 (fun q0 => ?_)
  refine n_dup C dL_law_3 ?_
  refine n_init C K.1 KM K.2.2.2 q_m_RL_9 q_i_yX4_init q_in_RX4 q_c_yX4_init rfl (an := 0) (by decide +kernel) (mc := 19) (ms := 195) ⟨rfl, rfl, (Nat.le_of_ble_eq_true rfl), (Nat.le_of_ble_eq_true rfl)⟩ (k_X4_init _ q0) (wc := [(q0, .inr (4, [.null, .null, .null, .null, .int 0, .int 0]))]) (wr := []) [0] [] rfl rfl rfl rfl (by decide) (by decide) rfl (rest := [.ref q0]) rfl (Nat.le_of_ble_eq_true rfl) dL_law_4 (by rw [hcells]; exact (Nat.le_of_ble_eq_true rfl)) (by rw [hslots]; exact (Nat.le_of_ble_eq_true rfl)) (fun u => ?_)
  refine n_chg (w2 := cw E (fun k => if k = 0 then q0 else u k) (fun _ _ => 0) (fun _ => -1)) rfl ?_
  refine n_astore C dL_law_7 rfl (Nat.le_of_ble_eq_true rfl) (lv2 := [(1, .ref q0), (0, .ref b)]) rfl ?_
  refine n_new C K.1 K.2.2.2 (ci := 5) (fs := [.int 0, .int 0, .int 0, .null, .null, .int 0, .int 0, .int 0, .int 0, .int 0, .int 0, .null, .null, .int 0, .null, .int 0, .int 0, .int 0, .int 0, .int 0, .int 0, .int 0, .null, .int 0, .null, .null, .null, .null, .null, .null, .null, .null, .null, .null, .null, .null, .long 0, .int 0, .int 0, .int 0, .int 0, .int 0, .int 0, .int 0, .int 0, .null, .null, .null, .null, .long 0]) inWX5 tyX5 tyX5_ok rfl q_cl_RL_10 q_new_RX5 q_in_RX5 (fun j hj => by rcases (show j = 0 ∨ j = 1 ∨ j = 2 ∨ j = 3 ∨ j = 4 ∨ j = 5 ∨ j = 6 ∨ j = 7 ∨ j = 8 ∨ j = 9 ∨ j = 10 ∨ j = 11 ∨ j = 12 ∨ j = 13 ∨ j = 14 ∨ j = 15 ∨ j = 16 ∨ j = 17 ∨ j = 18 ∨ j = 19 ∨ j = 20 ∨ j = 21 ∨ j = 22 ∨ j = 23 ∨ j = 24 ∨ j = 25 ∨ j = 26 ∨ j = 27 ∨ j = 28 ∨ j = 29 ∨ j = 30 ∨ j = 31 ∨ j = 32 ∨ j = 33 ∨ j = 34 ∨ j = 35 ∨ j = 36 ∨ j = 37 ∨ j = 38 ∨ j = 39 ∨ j = 40 ∨ j = 41 ∨ j = 42 ∨ j = 43 ∨ j = 44 ∨ j = 45 ∨ j = 46 ∨ j = 47 ∨ j = 48 ∨ j = 49 by omega) with rfl | rfl | rfl | rfl | rfl | rfl | rfl | rfl | rfl | rfl | rfl | rfl | rfl | rfl | rfl | rfl | rfl | rfl | rfl | rfl | rfl | rfl | rfl | rfl | rfl | rfl | rfl | rfl | rfl | rfl | rfl | rfl | rfl | rfl | rfl | rfl | rfl | rfl | rfl | rfl | rfl | rfl | rfl | rfl | rfl | rfl | rfl | rfl | rfl | rfl <;> rfl) (by rw [hcells]; exact (Nat.le_of_ble_eq_true rfl)) (by rw [hslots]; exact (Nat.le_of_ble_eq_true rfl)) dL_law_8 (fun q1 => ?_)
  refine n_dup C dL_law_11 ?_
  refine n_init C K.1 KM K.2.2.2 q_m_RL_12 q_i_yX5_init q_in_RX5 q_c_yX5_init rfl (an := 0) (by decide +kernel) (mc := 22) (ms := 2414) ⟨rfl, rfl, (Nat.le_of_ble_eq_true rfl), (Nat.le_of_ble_eq_true rfl)⟩ (k_X5_init _ q1) (wc := [(q1, .inr (5, [.int 0, .int 0, .int 0, .null, .null, .int 0, .int 0, .int 0, .int 0, .int 0, .int 0, .null, .null, .int 0, .null, .int 0, .int 0, .int 0, .int 0, .int 0, .int 0, .int 0, .null, .int 0, .null, .null, .null, .null, .null, .null, .null, .null, .null, .null, .null, .null, .long 0, .int 0, .int 0, .int 0, .int 0, .int 0, .int 0, .int 0, .int 0, .null, .null, .null, .null, .long 0]))]) (wr := cw E (fun k => if k = 0 then q0 else u k) (fun _ _ => 0) (fun _ => -1)) [20] [0, 1, 2, 3, 4, 5, 6, 7, 8, 9, 10, 11, 12, 13, 14, 15, 16, 17, 18, 19] rfl rfl rfl rfl (by decide) (by decide) rfl (rest := [.ref q1]) rfl (Nat.le_of_ble_eq_true rfl) dL_law_12 (by rw [hcells]; exact (Nat.le_of_ble_eq_true rfl)) (by rw [hslots]; exact (Nat.le_of_ble_eq_true rfl)) (fun u2 => ?_)
  refine n_astore C dL_law_15 rfl (Nat.le_of_ble_eq_true rfl) (lv2 := [(2, .ref q1), (1, .ref q0), (0, .ref b)]) rfl ?_
  refine n_iconst C dL_law_16 (v := 0) rfl ?_
  refine l_istore C dL_law_17 rfl (Nat.le_of_ble_eq_true rfl) (lv2 := [(3, .int 0), (2, .ref q1), (1, .ref q0), (0, .ref b)]) rfl ?_
  refine n_sub [3, 2, 1, 0] (lv2 := [(0, .ref b), (1, .ref q0), (2, .ref q1), (3, .int 0)]) rfl ?_
  exact law_loop (A := fun k => if k = 0 then q0 else u k) (B := fun k => if k = 0 then q1 else u2 k) (kc := 43) (kn := 2665) C K hX hbl hbA hL (by rw [hcells]; exact (Nat.le_of_ble_eq_true rfl)) (by rw [hslots]; exact (Nat.le_of_ble_eq_true rfl)) sim_all hend (L + 1) 0 (fun _ _ => 0) (fun _ _ => 0) (fun _ => -1) (fun _ => 0) (by omega) (by omega) Rel_0
theorem whole_start {p : Program} {e : Env} {s : State} {m : MethodId} {below : List Frame} {meth : Method} {c : Code} (l : Launch) (hflags : l.flags = flags0) {b L : Nat} {xs : Nat → Int32} (hL : L ≤ 2048) (C0 : lw_At p s m meth c b L xs) : W p l e room_1 s m #[Value.ref b] below meth c s.heap [] 0 0 (lw_Z below #[Value.ref b] s) (entryFrame m ([Value.ref b] : List Value).toArray 4) := by
  obtain ⟨hx, hb, hr, hml, hown, hts, hX, hbl, hlocks, hgv⟩ := id C0
  have hZ : ∀ a : Nat, a < s.heap.size → ¬ (fun q : Nat => s.heap.size ≤ q) a := fun a h => Nat.not_le.mpr h
  obtain ⟨E, hK, hNW, hNM, hSE⟩ := env_ex hts hgv (fun q : Nat => s.heap.size ≤ q) hZ
  have hw : ∀ w ∈ wA, w.before #[Value.ref b] s = true := fun w h => hts w (wA_tbl h)
  have C : Cx (p, l, e, room_1, s, m, #[Value.ref b], below, meth, c) (.instantiable RX4 6) code 4 RL 2048 84000 := ⟨hx, hb, hml, hown, fun w h => by
    rcases List.mem_cons.mp h with h | h
    · rw [h]; exact hw _ q_new_RX4
    · exact hw w h, rfl, rfl⟩
  have K : Ck (p, l, e, room_1, s, m, #[Value.ref b], below, meth, c) E (fun q : Nat => s.heap.size ≤ q) := ⟨hK, hNW, hSE, fun _ h => h⟩
  have hl := lv_entry ([.ref b]) (n := 4) (Nat.le_of_ble_eq_true rfl)
  rw [lg_entry_eq]
  generalize (lg_sl ([.ref b]) ++ List.replicate (4 - (lg_sl ([.ref b])).length) Slot.unset).toArray = ls at hl ⊢
  have hl : lv_has ls 4 [(0, .ref b)] := hl
  have main := law_main (Q := lw_Z below #[Value.ref b] s) C K hNM hX hbl (hZ b hbl) hL rfl rfl (fun lv w H locs ls hI hl2 => by
    refine lv_iconst (v := 1) hx hb dL_law_814 (by decide) ?_
    refine va_forget (fun q h => hI.2.2.2.2 q h) ?_
    refine W.widen (k := 600000) (n := 7302250) (Nat.le_of_ble_eq_true rfl) (Nat.le_of_ble_eq_true rfl) ?_
    exact lw_ret hx hb hr hlocks dL_law_815)
  exact main s.heap [] ls ⟨fun k q h => by simp at h, ⟨fun i j p q h => by simp at h, fun k q h => by simp at h⟩, va_S.rf⟩ hl
-- ===== YOUR PART ENDS =====
set_option maxHeartbeats 4000000 in
theorem lw_walk (l : Launch) (hflags : l.flags = flags0) (b : Addr) (xs : List Int32) : MetFree l x (headSpec (Jvm.Cond.code x code maxLocals ret :: tables_1) room_1) (lw_P b xs) (fun _ _ _ _ _ => True) lw_Q := by
  refine MetFree.of_bodyS (code := code) (maxLocals := maxLocals) (ret := ret) (by decide) ?_ ?_
  · intro args s m h hn
    obtain ⟨meth, c, h1, h2, h3, h4, h5, h6, -, -⟩ := Cond.code_spec hn (atoms_spec (ws := Jvm.Cond.code x code maxLocals ret :: tables_1) h _ List.mem_cons_self)
    exact ⟨meth, c, h1, h2, h3, h4, h5, h6⟩
  · intro p e s m args below meth c s₁ B hml0 hP _
    obtain ⟨rfl, hx, hbd, hgv⟩ := hP
    obtain ⟨scr, harrAt, hlist, hof, hsmall⟩ := hx
    obtain ⟨hcb, hkn, -, -⟩ := State.arrayAt?_spec harrAt
    have hown : s.vm.findClass R_law = some m.cls := findClass_of_methodNamed B.named
    have hts0 : ∀ c ∈ (Jvm.Cond.code x code maxLocals ret :: tables_1), c.before #[Value.ref b] s = true := atoms_spec (ws := Jvm.Cond.code x code maxLocals ret :: tables_1) B.pre
    have hts : ∀ w ∈ lw_tbl, w.before #[Value.ref b] s = true := k2_hts_sels lw_privs (fun w hw => hts0 w (List.mem_cons_of_mem _ hw)) lw_privs_ok
    have hml : c.maxLocals = 4 := B.maxLocals_eq (hts0 _ List.mem_cons_self)
    have X₀ : Stand p l e room_1 s m #[Value.ref b] below meth c s₁ [] 0 0 := Stand.of_body B
    have hh0 : s₁.heap = s.heap := by rw [B.state]; rfl
    have hsz : scr.slots.size = xs.length := by rw [← Array.length_toList, hlist, List.length_map]
    have hval : ∀ j : Nat, j < xs.length → scr.slots[j]? = some (.int (xs.getD j 0)) := fun j hj => by
      rw [← Array.getElem?_toList, hlist]
      simp [hj]
    have hbl : b < s.heap.size := (Array.getElem?_eq_some_iff.mp hcb).1
    have hX : va_X b xs.length (fun j => xs.getD j 0) s s.heap := ⟨scr, hcb, hof, hkn, hsz, hval⟩
    have K : W p l e room_1 s m #[Value.ref b] below meth c s₁.heap [] 0 0 (lw_Z below #[Value.ref b] s) (entryFrame m ([Value.ref b] : List Value).toArray 4) := by
      rw [hh0]
      exact whole_start l hflags hbd ⟨B.exec, B.bytes, B.returns, hml, hown, hts, hX, hbl, B.notSynchronized, hgv⟩
    obtain ⟨t, a1, o, b1, b2, b3⟩ := K s₁ rfl X₀
    exact ⟨t, o, a1, b1, b2, b3⟩
theorem lw_pre_spec {args : Array Value} {s : State} (h : (Jvm.Cond.and given_1 narrow_1).before args s = true) (hr : rest_1_c.before args s = true) : ∃ (b : Addr) (xs : List Int32), lw_P b xs args s := by
  have hs := flat_of_before _ h
  have hq := flat_of_before _ hr
  have hc : (Cond.count 1).before args s = true := hs _ (by decide +kernel)
  have harr : (Cond.arrayOf (.arg 0) .int).before args s = true := hs _ (by decide +kernel)
  have hle : (Cond.le (.length (.arg 0)) (.int 2048)).before args s = true := hs _ (by decide +kernel)
  have hlen : (Cond.isInt (.length (.arg 0))).before args s = true := hq _ (by decide +kernel)
  have hall : (Cond.all (.arg 0) (.isInt (.elem (.arg 0) (.index 0)))).before args s = true := hq _ (by decide +kernel)
  obtain ⟨b, xs, hb, hx⟩ := State.ints_of_pre rfl harr hlen hall
  have hsm : xs.length < 2 ^ 31 := hx.choose_spec.2.2.2
  have hev : (Term.length (.arg 0)).eval args s none [] s = some (.int xs.length.toInt32) := hx.length_eval hb
  have hv := Cond.le_ints hev (show (Term.int 2048).eval args s none [] s = some (.int 2048) from rfl)
  have hd : xs.length.toInt32 ≤ 2048 := by
    simpa [Cond.before, Cond.holds, hv] using hle
  have hN : xs.length ≤ 2048 := (Int32.ofNat_le_ofNat hsm (by decide)).mp (show Int32.ofNat xs.length ≤ Int32.ofNat 2048 from hd)
  exact ⟨b, xs, Cond.one_arg hc (show args[0]? = some (.ref b) from hb), hx, hN, h⟩
theorem lw_comes (l : Launch) (hflags : l.flags = flags0) : Comes l x (Jvm.Cond.code x code maxLocals ret :: tables_1) room_1 (fun tb e args s => Calls_1 tb e args s ∧ rest_1 tb e args s ∧ Pre_1 tb e args s)
    (fun _ _ args s o t => lw_Q args s o t) := by
  intro p e ha hc hk s m args below hf hfit hheap happ hpre
  obtain ⟨b, xs, hP⟩ := lw_pre_spec hpre.2.2 hpre.2.1
  obtain ⟨k, o, h1, h2, h3, hQ⟩ := lw_walk l hflags b xs p e ha hc hk s m args below hf ((Spec.applies_iff_loose hf).mp happ).1 hP trivial
  exact ⟨k, o, h1, h2, h3, hQ⟩
theorem lw_frame {s t : State} {o : Outcome} {args : Array Value} (h : Framed s o t [] 600000 7302250) :
    Framed s o t (fieldLocs frame_1_writes args s ++ arrayLocs frame_1_arrays args s ++ staticLocs frame_1_statics s) 600000 7302250 := h
theorem lw_limb (L : Cond) (hL : ∀ (args : Array Value) (s t : State), L.after args s (.returned (some (.int 1))) t = true) :
    ArmFor flags0 classFile x code maxLocals ret World_1 tables_1 room_1 Calls_1 rest_1 Pre_1
      (fun tb e a s o t => postC L tb e a s o t ∧ Framed s o t (fieldLocs frame_1_writes a s ++ arrayLocs frame_1_arrays a s ++ staticLocs frame_1_statics s) 600000 7302250) := by
  intro l hflags _ _ p e ha hc hk s m args below hf hfit hheap happ hpre
  obtain ⟨k, o, h1, h2, h3, rfl, hF⟩ := lw_comes l hflags p e ha hc hk s m args below hf hfit hheap happ hpre
  exact ⟨k, _, h1, h2, h3, hL args s _, lw_frame hF⟩
theorem i_vc : Claimed_1_1 ∧ Claimed_1_2 := ⟨lw_limb limb_1_1 (fun args s t => by simp [limb_1_1, Cond.after, Cond.holds, Cond.value]), lw_limb limb_1_2 (fun args s t => Cond.after_iff.mpr (by
  first | (rw [show limb_1_2 = Cond.eq .result (.int 1) from rfl, Cond.eq_ints (x := 1) (y := 1) rfl rfl]; simp; done) | (simp [limb_1_2, Cond.value, Term.eval]; done)))⟩
