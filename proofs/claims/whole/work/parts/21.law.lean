section LN
variable {X : XT} {hd : Cond} {cc : ByteArray} {nL : Nat} {own : String} {fr lo : Nat} {Q : State → Prop} {k n pc : Nat} {lv : List (Nat × Value)} {st rest : List Value} {E : EvT} {Z : Nat → Prop} {w : va_W}
theorem l_iload (C : Cx X hd cc nL own fr lo) {i : Fin 4} {j : Nat} {x : Int32} (hdg : decode cc pc = .ok (.iload_n i, 1)) (q : Nat) (hq : lv[q]? = some (j, .int x)) (hi : (i : Nat) = j) (kk : Wn X nL E Z Q k n (pc + 1) lv (.int x :: st) w) : Wn X nL E Z Q k n pc lv st w := fun H locs ls hI hl => lv_iload_n C.1 C.2.1 hdg hi (lv_at hl q hq) (kk H locs ls hI hl)
theorem l_iadd (C : Cx X hd cc nL own fr lo) {x y : Int32} (hdg : decode cc pc = .ok (.iadd, 1)) (kk : Wn X nL E Z Q k n (pc + 1) lv (.int (x + y) :: st) w) : Wn X nL E Z Q k n pc lv (.int y :: .int x :: st) w := fun H locs ls hI hl => lv_iadd C.1 C.2.1 hdg (kk H locs ls hI hl)
theorem l_isub (C : Cx X hd cc nL own fr lo) {x y : Int32} (hdg : decode cc pc = .ok (.isub, 1)) (kk : Wn X nL E Z Q k n (pc + 1) lv (.int (x - y) :: st) w) : Wn X nL E Z Q k n pc lv (.int y :: .int x :: st) w := fun H locs ls hI hl => lv_isub C.1 C.2.1 hdg (kk H locs ls hI hl)
theorem l_iand (C : Cx X hd cc nL own fr lo) {x y : Int32} (hdg : decode cc pc = .ok (.iand, 1)) (kk : Wn X nL E Z Q k n (pc + 1) lv (.int (x &&& y) :: st) w) : Wn X nL E Z Q k n pc lv (.int y :: .int x :: st) w := fun H locs ls hI hl => lv_iand C.1 C.2.1 hdg (kk H locs ls hI hl)
theorem l_lcmp (C : Cx X hd cc nL own fr lo) {x y : Int64} (hdg : decode cc pc = .ok (.lcmp, 1)) (kk : Wn X nL E Z Q k n (pc + 1) lv (.int (lg_cmp x y) :: st) w) : Wn X nL E Z Q k n pc lv (.long y :: .long x :: st) w := fun H locs ls hI hl => W.lcmp C.1 C.2.1 hdg (kk H locs ls hI hl)
theorem l_goto (C : Cx X hd cc nL own fr lo) {off : Int} {tgt : Nat} (hdg : decode cc pc = .ok (.goto off, 3)) (ht : (pc : Int) + off = (tgt : Int)) (kk : Wn X nL E Z Q k n tgt lv st w) : Wn X nL E Z Q k n pc lv st w := fun H locs ls hI hl => lv_goto C.1 C.2.1 hdg ht (kk H locs ls hI hl)
theorem l_gt (C : Cx X hd cc nL own fr lo) {x y : Int32} {off : Int} {tgt : Nat} (hdg : decode cc pc = .ok (.if_icmp .gt off, 3)) (ht : (pc : Int) + off = (tgt : Int)) (kt : y < x → Wn X nL E Z Q k n tgt lv st w) (kf : ¬ y < x → Wn X nL E Z Q k n (pc + 3) lv st w) : Wn X nL E Z Q k n pc lv (.int y :: .int x :: st) w := fun H locs ls hI hl => lv_icmp_gt C.1 C.2.1 hdg ht (fun q => kt q H locs ls hI hl) (fun q => kf q H locs ls hI hl)
theorem l_eq (C : Cx X hd cc nL own fr lo) {x : Int32} {off : Int} {tgt : Nat} (hdg : decode cc pc = .ok (.if_icmp .eq off, 3)) (ht : (pc : Int) + off = (tgt : Int)) (kt : Wn X nL E Z Q k n tgt lv st w) : Wn X nL E Z Q k n pc lv (.int x :: .int x :: st) w := fun H locs ls hI hl => lv_icmp_eq C.1 C.2.1 hdg ht (fun q => kt H locs ls hI hl) (fun q => absurd rfl q)
theorem l_ifeq (C : Cx X hd cc nL own fr lo) {off : Int} {tgt : Nat} (hdg : decode cc pc = .ok (.ifCond .eq off, 3)) (ht : (pc : Int) + off = (tgt : Int)) (kt : Wn X nL E Z Q k n tgt lv st w) : Wn X nL E Z Q k n pc lv (.int 0 :: st) w := fun H locs ls hI hl => lv_if_eq C.1 C.2.1 hdg ht (fun q => kt H locs ls hI hl) (fun q => absurd rfl q)
theorem l_iinc (C : Cx X hd cc nL own fr lo) {i : Nat} {z : Int} {x v : Int32} (hdg : decode cc pc = .ok (.iinc i z, 3)) (q : Nat) (hq : lv[q]? = some (i, .int x)) (hv : x + Int32.ofInt z = v) (hn : i < nL) {lv2 : List (Nat × Value)} (hl2 : (i, Value.int v) :: lv.filter (fun q => !(q.1 == i) && !(q.1 + 1 == i && q.2.category == 2)) = lv2) (kk : Wn X nL E Z Q k n (pc + 3) lv2 st w) : Wn X nL E Z Q k n pc lv st w := fun H locs ls hI hl => lv_iinc C.1 C.2.1 hdg hl hq hv hn hl2 (fun ls2 h2 => kk H locs ls2 hI h2)
theorem l_istore (C : Cx X hd cc nL own fr lo) {i : Fin 4} {j : Nat} {x : Int32} (hdg : decode cc pc = .ok (.istore_n i, 1)) (hi : (i : Nat) = j) (hn : j < nL) {lv2 : List (Nat × Value)} (hl2 : (j, Value.int x) :: lv.filter (fun q => !(q.1 == j) && !(q.1 + 1 == j && q.2.category == 2)) = lv2) (kk : Wn X nL E Z Q k n (pc + 1) lv2 st w) : Wn X nL E Z Q k n pc lv (.int x :: st) w := fun H locs ls hI hl => lv_istore_n C.1 C.2.1 hdg hi hl hn hl2 (fun ls2 h2 => kk H locs ls2 hI h2)
theorem l_tblOut (C : Cx X hd cc nL own fr lo) {dflt a b : Int} {offs : Array Int} {len : Nat} {x : Int32} {tgt : Nat} (hdg : decode cc pc = .ok (.tableswitch dflt a b offs, len)) (h : x.toInt < a ∨ b < x.toInt) (ht : (pc : Int) + dflt = (tgt : Int)) (kk : Wn X nL E Z Q k n tgt lv st w) : Wn X nL E Z Q k n pc lv (.int x :: st) w := fun H locs ls hI hl => lv_tableOut C.1 C.2.1 hdg h ht (kk H locs ls hI hl)
theorem l_tblIn (C : Cx X hd cc nL own fr lo) {dflt a b : Int} {offs : Array Int} {len : Nat} {x : Int32} {off : Int} {tgt : Nat} (hdg : decode cc pc = .ok (.tableswitch dflt a b offs, len)) (h1 : ¬ x.toInt < a) (h2 : ¬ b < x.toInt) (ho : offs[(x.toInt - a).toNat]? = some off) (ht : (pc : Int) + off = (tgt : Int)) (kk : Wn X nL E Z Q k n tgt lv st w) : Wn X nL E Z Q k n pc lv (.int x :: st) w := fun H locs ls hI hl => lv_tableIn C.1 C.2.1 hdg h1 h2 ho ht (kk H locs ls hI hl)

theorem l_len (C : Cx X hd cc nL own fr lo) {b L : Nat} {xs : Nat → Int32} (hX : va_X b L xs X.2.2.2.2.1 X.2.2.2.2.1.heap) (hbl : b < X.2.2.2.2.1.heap.size) (hbA : ¬ Z b) (hdg : decode cc pc = .ok (.arraylength, 1)) (kk : Wn X nL E Z Q k n (pc + 1) lv (.int (nI L) :: st) w) : Wn X nL E Z Q k n pc lv (.ref b :: st) w := fun H locs ls hI hl => va_slen C.1 C.2.1 hX hbl hbA hI.2.2 hdg (kk H locs ls hI hl)
theorem l_ld (C : Cx X hd cc nL own fr lo) {b L j : Nat} {xs : Nat → Int32} (hX : va_X b L xs X.2.2.2.2.1 X.2.2.2.2.1.heap) (hbl : b < X.2.2.2.2.1.heap.size) (hbA : ¬ Z b) {i : Int32} (hi : i = nI j) (hj : j < L) (hL : L ≤ 2048) (hdg : decode cc pc = .ok (.iaload, 1)) (kk : Wn X nL E Z Q k n (pc + 1) lv (.int (xs j) :: st) w) : Wn X nL E Z Q k n pc lv (.int i :: .ref b :: st) w := fun H locs ls hI hl => va_sld C.1 C.2.1 hX hbl hbA hI.2.2 (by rw [hi]; exact vp_in_nI hj (by omega)) hdg (by rw [hi, nI_clamp (by omega)]; exact kk H locs ls hI hl)
variable {y : MethodName} {bytes : ByteArray} {mL an idx b : Nat} {rt : Option FieldType} {Cc : String} {rm : Room} {As : List Value} {wl wc wc2 wr : va_W} {ci N qp : Nat} {fs : List Value} {T : u_T}
theorem iw_mid {H : Heap} {locs : List Loc} (hI : IW X E Z (wl ++ (wc ++ wr)) H locs) : IW X E Z wc H locs := by
  have key : ∀ (i : Nat) (q : Nat × va_E), wc[i]? = some q → (wl ++ (wc ++ wr))[wl.length + i]? = some q := by
    intro i q h
    have hlt : i < wc.length := (List.getElem?_eq_some_iff.mp h).1
    rw [List.getElem?_append_right (by omega), Nat.add_sub_cancel_left, List.getElem?_append_left hlt]
    exact h
  refine ⟨fun i q h => hI.1 _ q (key i q h), ⟨fun i j p q h1 h2 e => ?_, fun i q h => hI.2.1.2 _ q (key i q h)⟩, hI.2.2⟩
  have := hI.2.1.1 _ _ p q (key i p h1) (key j q h2) e
  omega
theorem iw_back {H H1 : Heap} {locs locs1 : List Loc} (hI : IW X E Z (wl ++ (wc ++ wr)) H locs) (hk : ∀ q : Nat, q < H.size → ¬ va_A wc H.size q → H1[q]? = H[q]?) (hP : va_P E.1 vwCl wc2 H1) (hfst : wc.map Prod.fst = wc2.map Prod.fst) (hS : va_S Z X.2.2.2.2.1.heap H1 locs1) : IW X E Z (wl ++ (wc2 ++ wr)) H1 locs1 := by
  have hkeep : ∀ (i : Nat) (q : Nat × va_E), (wl ++ (wc ++ wr))[i]? = some q → (i < wl.length ∨ wl.length + wc.length ≤ i) → va_at E.1 vwCl q H1 := by
    intro i q hq hi
    refine (hI.1 i q hq).kept (hk q.1 (hI.1 i q hq).lt ?_)
    rintro (⟨j, e, hj⟩ | hj)
    · have hlt : j < wc.length := (List.getElem?_eq_some_iff.mp hj).1
      have h2 : (wl ++ (wc ++ wr))[wl.length + j]? = some (q.1, e) := by
        rw [List.getElem?_append_right (by omega), Nat.add_sub_cancel_left, List.getElem?_append_left hlt]
        exact hj
      have := hI.2.1.1 _ _ q (q.1, e) hq h2 rfl
      omega
    · have := (hI.1 i q hq).lt
      omega
  have hlen : wc.length = wc2.length := by
    have := congrArg List.length hfst
    simpa using this
  refine ⟨fun i q hq => ?_, d_fst ?_ hI.2.1, hS⟩
  · by_cases h1 : i < wl.length
    · rw [List.getElem?_append_left h1] at hq
      exact hkeep i q (by rw [List.getElem?_append_left h1]; exact hq) (Or.inl h1)
    · rw [List.getElem?_append_right (by omega)] at hq
      by_cases h2 : i - wl.length < wc2.length
      · rw [List.getElem?_append_left h2] at hq
        exact hP _ q hq
      · rw [List.getElem?_append_right (by omega)] at hq
        refine hkeep i q ?_ (Or.inr (by omega))
        rw [List.getElem?_append_right (by omega), List.getElem?_append_right (by omega), hlen]
        exact hq
  · rw [List.map_append, List.map_append, List.map_append, List.map_append, hfst]
theorem l_callI (C : Cx X hd cc nL own fr lo) (K : Ck X E Z) (cal : Cal own idx Cc y bytes mL rt an) (hrm : Rmf rm mL fr lo) {r : Int32} (hM : KI X.2.1 y (.code y bytes mL rt :: wA) rm E wc wc2 (.ref b :: As) r) (he : wc[qp]? = some (b, .inr (ci, fs))) (hcl : vwCl[ci]? = some (Cc, T, N)) (hfst : wc.map Prod.fst = wc2.map Prod.fst) (hn : As.length = an) (hst : st = As.reverse ++ .ref b :: rest) (hrest : (rest.map fun v => v.category).sum ≤ 8) (hdg : decode cc pc = .ok (.invokevirtual idx, 3)) (hkc : k ≤ X.2.2.2.1.cells) (hkn : n ≤ X.2.2.2.1.slots) (kk : Wn X nL E Z Q k n (pc + 3) lv (.int r :: rest) (wl ++ (wc2 ++ wr))) : Wn X nL E Z Q k n pc lv st (wl ++ (wc ++ wr)) := by
  subst hst
  intro H locs ls hI hl
  have hJ := iw_mid hI
  refine va_calli (va_runV (As := As) (rest := rest) ⟨C.1, C.2.1, C.2.2.1, C.2.2.2.1, C.2.2.2.2.1⟩ (hM H.size) (cal_w C cal hrm) (pre_w K hJ he hcl) rfl hn hl.1 rfl (lv_room hrest) hdg ⟨hkc, hkn⟩) hI.2.2 (fun q _ h => a_free hJ.2.1 hJ.2.2 K.2.2.2 q h) (a_free hJ.2.1 hJ.2.2 K.2.2.2) (fun r2 u t H1 locs1 ht hvm hw hB hz1 hk1 hS => ?_)
  subst hw
  exact kk H1 locs1 ls (iw_back hI hk1 (by rw [← ht]; exact hB) hfst hS) hl
theorem l_callL (C : Cx X hd cc nL own fr lo) (K : Ck X E Z) (cal : Cal own idx Cc y bytes mL rt an) (hrm : Rmf rm mL fr lo) {r : Int64} (hM : KL X.2.1 y (.code y bytes mL rt :: wA) rm E wc wc2 (.ref b :: As) r) (he : wc[qp]? = some (b, .inr (ci, fs))) (hcl : vwCl[ci]? = some (Cc, T, N)) (hfst : wc.map Prod.fst = wc2.map Prod.fst) (hn : As.length = an) (hst : st = As.reverse ++ .ref b :: rest) (hrest : (rest.map fun v => v.category).sum ≤ 8) (hdg : decode cc pc = .ok (.invokevirtual idx, 3)) (hkc : k ≤ X.2.2.2.1.cells) (hkn : n ≤ X.2.2.2.1.slots) (kk : Wn X nL E Z Q k n (pc + 3) lv (.long r :: rest) (wl ++ (wc2 ++ wr))) : Wn X nL E Z Q k n pc lv st (wl ++ (wc ++ wr)) := by
  subst hst
  intro H locs ls hI hl
  have hJ := iw_mid hI
  refine va_calll (va_runV (As := As) (rest := rest) ⟨C.1, C.2.1, C.2.2.1, C.2.2.2.1, C.2.2.2.2.1⟩ (hM H.size) (cal_w C cal hrm) (pre_w K hJ he hcl) rfl hn hl.1 rfl (lv_room hrest) hdg ⟨hkc, hkn⟩) hI.2.2 (fun q _ h => a_free hJ.2.1 hJ.2.2 K.2.2.2 q h) (a_free hJ.2.1 hJ.2.2 K.2.2.2) (fun r2 u t H1 locs1 ht hvm hw hB hz1 hk1 hS => ?_)
  subst hw
  exact kk H1 locs1 ls (iw_back hI hk1 (by rw [← ht]; exact hB) hfst hS) hl
end LN

abbrev RelT : Type := Nat → (Nat → Nat → Int32) → (Nat → Int64) → (Nat → Nat → Int32) → (Nat → Int64) → Prop
def Sim_letter (Rel : RelT) : Prop := ∀ (n : Nat) (V : Nat → Nat → Int32) (L : Nat → Int64) (V2 : Nat → Nat → Int32) (L2 : Nat → Int64) (x1 : Int32), n < 512 → Rel n V L V2 L2 → ∃ (r : Int32) (V1 : Nat → Nat → Int32) (L1 : Nat → Int64) (V3 : Nat → Nat → Int32) (L3 : Nat → Int64), (f_X4_letter V L x1 = some (r, V1, L1)) ∧ (f_X5_letter V2 L2 x1 = some (r, V3, L3)) ∧ Rel (n + 1) V1 L1 V3 L3
def Sim_blank (Rel : RelT) : Prop := ∀ (n : Nat) (V : Nat → Nat → Int32) (L : Nat → Int64) (V2 : Nat → Nat → Int32) (L2 : Nat → Int64), n < 512 → Rel n V L V2 L2 → ∃ (r : Int32) (V1 : Nat → Nat → Int32) (L1 : Nat → Int64) (V3 : Nat → Nat → Int32) (L3 : Nat → Int64), (f_X4_blank V L  = some (r, V1, L1)) ∧ (f_X5_blank V2 L2  = some (r, V3, L3)) ∧ Rel (n + 1) V1 L1 V3 L3
def Sim_fault (Rel : RelT) : Prop := ∀ (n : Nat) (V : Nat → Nat → Int32) (L : Nat → Int64) (V2 : Nat → Nat → Int32) (L2 : Nat → Int64), n < 512 → Rel n V L V2 L2 → ∃ (r : Int32) (V1 : Nat → Nat → Int32) (L1 : Nat → Int64) (V3 : Nat → Nat → Int32) (L3 : Nat → Int64), (f_X4_fault V L  = some (r, V1, L1)) ∧ (f_X5_fault V2 L2  = some (r, V3, L3)) ∧ Rel (n + 1) V1 L1 V3 L3
def Sim_ring (Rel : RelT) : Prop := ∀ (n : Nat) (V : Nat → Nat → Int32) (L : Nat → Int64) (V2 : Nat → Nat → Int32) (L2 : Nat → Int64), n < 512 → Rel n V L V2 L2 → ∃ (r : Int32) (V1 : Nat → Nat → Int32) (L1 : Nat → Int64) (V3 : Nat → Nat → Int32) (L3 : Nat → Int64), (f_X4_ring V L  = some (r, V1, L1)) ∧ (f_X5_ring V2 L2  = some (r, V3, L3)) ∧ Rel (n + 1) V1 L1 V3 L3
def Sim_child (Rel : RelT) : Prop := ∀ (n : Nat) (V : Nat → Nat → Int32) (L : Nat → Int64) (V2 : Nat → Nat → Int32) (L2 : Nat → Int64) (x1 x2 : Int32), n < 512 → Rel n V L V2 L2 → ∃ (r : Int32) (V1 : Nat → Nat → Int32) (L1 : Nat → Int64) (V3 : Nat → Nat → Int32) (L3 : Nat → Int64), (f_X4_child V L x1 x2 = some (r, V1, L1)) ∧ (f_X5_child V2 L2 x1 x2 = some (r, V3, L3)) ∧ Rel (n + 1) V1 L1 V3 L3
def Sim_as (Rel : RelT) : Prop := ∀ (n : Nat) (V : Nat → Nat → Int32) (L : Nat → Int64) (V2 : Nat → Nat → Int32) (L2 : Nat → Int64) (x1 x2 : Int32), n < 512 → Rel n V L V2 L2 → ∃ (r : Int32) (V1 : Nat → Nat → Int32) (L1 : Nat → Int64) (V3 : Nat → Nat → Int32) (L3 : Nat → Int64), (f_X4_as V L x1 x2 = r ∧ V1 = V ∧ L1 = L) ∧ (f_X5_as V2 L2 x1 x2 = some r ∧ V3 = V2 ∧ L3 = L2) ∧ Rel (n + 1) V1 L1 V3 L3
def Sim_verse (Rel : RelT) : Prop := ∀ (n : Nat) (V : Nat → Nat → Int32) (L : Nat → Int64) (V2 : Nat → Nat → Int32) (L2 : Nat → Int64) (x1 x2 : Int32), n < 512 → Rel n V L V2 L2 → ∃ (r : Int32) (V1 : Nat → Nat → Int32) (L1 : Nat → Int64) (V3 : Nat → Nat → Int32) (L3 : Nat → Int64), (f_X4_verse V L x1 x2 = some (r, V1, L1)) ∧ (f_X5_verse V2 L2 x1 x2 = some (r, V3, L3)) ∧ Rel (n + 1) V1 L1 V3 L3
def Sim_say (Rel : RelT) : Prop := ∀ (n : Nat) (V : Nat → Nat → Int32) (L : Nat → Int64) (V2 : Nat → Nat → Int32) (L2 : Nat → Int64) (x1 : Int32), n < 512 → Rel n V L V2 L2 → ∃ (r : Int32) (V1 : Nat → Nat → Int32) (L1 : Nat → Int64) (V3 : Nat → Nat → Int32) (L3 : Nat → Int64), (f_X4_say V L x1 = some (r, V1, L1)) ∧ (f_X5_say V2 L2 x1 = some (r, V3, L3)) ∧ Rel (n + 1) V1 L1 V3 L3
def Sim_back (Rel : RelT) : Prop := ∀ (n : Nat) (V : Nat → Nat → Int32) (L : Nat → Int64) (V2 : Nat → Nat → Int32) (L2 : Nat → Int64) (x1 : Int32), n < 512 → Rel n V L V2 L2 → ∃ (r : Int32) (V1 : Nat → Nat → Int32) (L1 : Nat → Int64) (V3 : Nat → Nat → Int32) (L3 : Nat → Int64), (f_X4_back V L x1 = some (r, V1, L1)) ∧ (f_X5_back V2 L2 x1 = some (r, V3, L3)) ∧ Rel (n + 1) V1 L1 V3 L3
def Sim_first (Rel : RelT) : Prop := ∀ (n : Nat) (V : Nat → Nat → Int32) (L : Nat → Int64) (V2 : Nat → Nat → Int32) (L2 : Nat → Int64) (x1 : Int32), n < 512 → Rel n V L V2 L2 → ∃ (r : Int32) (V1 : Nat → Nat → Int32) (L1 : Nat → Int64) (V3 : Nat → Nat → Int32) (L3 : Nat → Int64), (f_X4_first V L x1 = some (r, V1, L1)) ∧ (f_X5_first V2 L2 x1 = some (r, V3, L3)) ∧ Rel (n + 1) V1 L1 V3 L3
def Sim_turn (Rel : RelT) : Prop := ∀ (n : Nat) (V : Nat → Nat → Int32) (L : Nat → Int64) (V2 : Nat → Nat → Int32) (L2 : Nat → Int64), n < 512 → Rel n V L V2 L2 → ∃ (r : Int32) (V1 : Nat → Nat → Int32) (L1 : Nat → Int64) (V3 : Nat → Nat → Int32) (L3 : Nat → Int64), (f_X4_turn V L  = some (r, V1, L1)) ∧ (f_X5_turn V2 L2  = some (r, V3, L3)) ∧ Rel (n + 1) V1 L1 V3 L3
def Sim_beats (Rel : RelT) : Prop := ∀ (n : Nat) (V : Nat → Nat → Int32) (L : Nat → Int64) (V2 : Nat → Nat → Int32) (L2 : Nat → Int64) (x1 x2 : Int32), n < 512 → Rel n V L V2 L2 → ∃ (r : Int32) (V1 : Nat → Nat → Int32) (L1 : Nat → Int64) (V3 : Nat → Nat → Int32) (L3 : Nat → Int64), (f_X4_beats V L x1 x2 = some (r, V1, L1)) ∧ (f_X5_beats V2 L2 x1 x2 = some (r, V3, L3)) ∧ Rel (n + 1) V1 L1 V3 L3
def Sim_be (Rel : RelT) : Prop := ∀ (n : Nat) (V : Nat → Nat → Int32) (L : Nat → Int64) (V2 : Nat → Nat → Int32) (L2 : Nat → Int64) (x1 x2 : Int32), n < 512 → Rel n V L V2 L2 → ∃ (r : Int32) (V1 : Nat → Nat → Int32) (L1 : Nat → Int64) (V3 : Nat → Nat → Int32) (L3 : Nat → Int64), (f_X4_be V L x1 x2 = some (r, V1, L1)) ∧ (f_X5_be V2 L2 x1 x2 = some (r, V3, L3)) ∧ Rel (n + 1) V1 L1 V3 L3
def Sim_last (Rel : RelT) : Prop := ∀ (n : Nat) (V : Nat → Nat → Int32) (L : Nat → Int64) (V2 : Nat → Nat → Int32) (L2 : Nat → Int64) (x1 : Int32), n < 512 → Rel n V L V2 L2 → ∃ (r : Int32) (V1 : Nat → Nat → Int32) (L1 : Nat → Int64) (V3 : Nat → Nat → Int32) (L3 : Nat → Int64), (f_X4_last V L x1 = some (r, V1, L1)) ∧ (f_X5_last V2 L2 x1 = some (r, V3, L3)) ∧ Rel (n + 1) V1 L1 V3 L3
def Sim_begin (Rel : RelT) : Prop := ∀ (n : Nat) (V : Nat → Nat → Int32) (L : Nat → Int64) (V2 : Nat → Nat → Int32) (L2 : Nat → Int64) (x1 x2 : Int32), n < 512 → Rel n V L V2 L2 → ∃ (r : Int32) (V1 : Nat → Nat → Int32) (L1 : Nat → Int64) (V3 : Nat → Nat → Int32) (L3 : Nat → Int64), (f_X4_begin V L x1 x2 = some (r, V1, L1)) ∧ (f_X5_begin V2 L2 x1 x2 = some (r, V3, L3)) ∧ Rel (n + 1) V1 L1 V3 L3
def Sim_stand (Rel : RelT) : Prop := ∀ (n : Nat) (V : Nat → Nat → Int32) (L : Nat → Int64) (V2 : Nat → Nat → Int32) (L2 : Nat → Int64) (x1 x2 : Int32), n < 512 → Rel n V L V2 L2 → ∃ (r : Int32) (V1 : Nat → Nat → Int32) (L1 : Nat → Int64) (V3 : Nat → Nat → Int32) (L3 : Nat → Int64), (f_X4_stand V L x1 x2 = some (r, V1, L1)) ∧ (f_X5_stand V2 L2 x1 x2 = some (r, V3, L3)) ∧ Rel (n + 1) V1 L1 V3 L3
def Sim_game (Rel : RelT) : Prop := ∀ (n : Nat) (V : Nat → Nat → Int32) (L : Nat → Int64) (V2 : Nat → Nat → Int32) (L2 : Nat → Int64) (x1 x2 x3 : Int32), n < 512 → Rel n V L V2 L2 → ∃ (r : Int32) (V1 : Nat → Nat → Int32) (L1 : Nat → Int64) (V3 : Nat → Nat → Int32) (L3 : Nat → Int64), (f_X4_game V L x1 x2 x3 = some (r, V1, L1)) ∧ (f_X5_game V2 L2 x1 x2 x3 = some (r, V3, L3)) ∧ Rel (n + 1) V1 L1 V3 L3
def Sim_likely (Rel : RelT) : Prop := ∀ (n : Nat) (V : Nat → Nat → Int32) (L : Nat → Int64) (V2 : Nat → Nat → Int32) (L2 : Nat → Int64) (x1 x2 : Int32), n < 512 → Rel n V L V2 L2 → ∃ (r : Int32) (V1 : Nat → Nat → Int32) (L1 : Nat → Int64) (V3 : Nat → Nat → Int32) (L3 : Nat → Int64), (f_X4_likely V L x1 x2 = some (r, V1, L1)) ∧ (f_X5_likely V2 L2 x1 x2 = some (r, V3, L3)) ∧ Rel (n + 1) V1 L1 V3 L3
def Sim_see (Rel : RelT) : Prop := ∀ (n : Nat) (V : Nat → Nat → Int32) (L : Nat → Int64) (V2 : Nat → Nat → Int32) (L2 : Nat → Int64) (x1 x2 : Int32), n < 512 → Rel n V L V2 L2 → ∃ (r : Int32) (V1 : Nat → Nat → Int32) (L1 : Nat → Int64) (V3 : Nat → Nat → Int32) (L3 : Nat → Int64), (f_X4_see V L x1 x2 = some (r, V1, L1)) ∧ (f_X5_see V2 L2 x1 x2 = some (r, V3, L3)) ∧ Rel (n + 1) V1 L1 V3 L3
def Sim_forget (Rel : RelT) : Prop := ∀ (n : Nat) (V : Nat → Nat → Int32) (L : Nat → Int64) (V2 : Nat → Nat → Int32) (L2 : Nat → Int64), n < 512 → Rel n V L V2 L2 → ∃ (r : Int32) (V1 : Nat → Nat → Int32) (L1 : Nat → Int64) (V3 : Nat → Nat → Int32) (L3 : Nat → Int64), (f_X4_forget V L  = some (r, V1, L1)) ∧ (f_X5_forget V2 L2  = some (r, V3, L3)) ∧ Rel (n + 1) V1 L1 V3 L3
def Sim_lengths (Rel : RelT) : Prop := ∀ (n : Nat) (V : Nat → Nat → Int32) (L : Nat → Int64) (V2 : Nat → Nat → Int32) (L2 : Nat → Int64), n < 512 → Rel n V L V2 L2 → ∃ (r : Int32) (V1 : Nat → Nat → Int32) (L1 : Nat → Int64) (V3 : Nat → Nat → Int32) (L3 : Nat → Int64), (f_X4_lengths V L  = some (r, V1, L1)) ∧ (f_X5_lengths V2 L2  = some (r, V3, L3)) ∧ Rel (n + 1) V1 L1 V3 L3
def Sim_from (Rel : RelT) : Prop := ∀ (n : Nat) (V : Nat → Nat → Int32) (L : Nat → Int64) (V2 : Nat → Nat → Int32) (L2 : Nat → Int64), n < 512 → Rel n V L V2 L2 → ∃ (r : Int32) (V1 : Nat → Nat → Int32) (L1 : Nat → Int64) (V3 : Nat → Nat → Int32) (L3 : Nat → Int64), (f_X4_from V L  = some (r, V1, L1)) ∧ (f_X5_from V2 L2  = some (r, V3, L3)) ∧ Rel (n + 1) V1 L1 V3 L3
def Sim_rounds (Rel : RelT) : Prop := ∀ (n : Nat) (V : Nat → Nat → Int32) (L : Nat → Int64) (V2 : Nat → Nat → Int32) (L2 : Nat → Int64) (x1 x2 x3 : Int32), n < 512 → Rel n V L V2 L2 → ∃ (r : Int32) (V1 : Nat → Nat → Int32) (L1 : Nat → Int64) (V3 : Nat → Nat → Int32) (L3 : Nat → Int64), (f_X4_rounds V L x1 x2 x3 = some (r, V1, L1)) ∧ (f_X5_rounds V2 L2 x1 x2 x3 = some (r, V3, L3)) ∧ Rel (n + 1) V1 L1 V3 L3
def Sim_image (Rel : RelT) : Prop := ∀ (n : Nat) (V : Nat → Nat → Int32) (L : Nat → Int64) (V2 : Nat → Nat → Int32) (L2 : Nat → Int64), n < 512 → Rel n V L V2 L2 → ∃ (r : Int32) (V1 : Nat → Nat → Int32) (L1 : Nat → Int64) (V3 : Nat → Nat → Int32) (L3 : Nat → Int64), (f_X4_image V L  = some (r, V1, L1)) ∧ (f_X5_image V2 L2  = some (r, V3, L3)) ∧ Rel (n + 1) V1 L1 V3 L3
def Sim_restore (Rel : RelT) : Prop := ∀ (n : Nat) (V : Nat → Nat → Int32) (L : Nat → Int64) (V2 : Nat → Nat → Int32) (L2 : Nat → Int64), n < 512 → Rel n V L V2 L2 → ∃ (r : Int32) (V1 : Nat → Nat → Int32) (L1 : Nat → Int64) (V3 : Nat → Nat → Int32) (L3 : Nat → Int64), (f_X4_restore V L  = some (r, V1, L1)) ∧ (f_X5_restore V2 L2  = some (r, V3, L3)) ∧ Rel (n + 1) V1 L1 V3 L3
def Sim_count (Rel : RelT) : Prop := ∀ (n : Nat) (V : Nat → Nat → Int32) (L : Nat → Int64) (V2 : Nat → Nat → Int32) (L2 : Nat → Int64) (x1 : Int32), n < 512 → Rel n V L V2 L2 → ∃ (r : Int32) (V1 : Nat → Nat → Int32) (L1 : Nat → Int64) (V3 : Nat → Nat → Int32) (L3 : Nat → Int64), (f_X4_count V L x1 = r ∧ V1 = V ∧ L1 = L) ∧ (f_X5_count V2 L2 x1 = some r ∧ V3 = V2 ∧ L3 = L2) ∧ Rel (n + 1) V1 L1 V3 L3
def Sim_digest (Rel : RelT) : Prop := ∀ (n : Nat) (V : Nat → Nat → Int32) (L : Nat → Int64) (V2 : Nat → Nat → Int32) (L2 : Nat → Int64), n < 512 → Rel n V L V2 L2 → ∃ (r : Int64) (V1 : Nat → Nat → Int32) (L1 : Nat → Int64) (V3 : Nat → Nat → Int32) (L3 : Nat → Int64), (f_X4_digest V L  = some (r, V1, L1)) ∧ (f_X5_digest V2 L2  = some (r, V3, L3)) ∧ Rel (n + 1) V1 L1 V3 L3
def Sim (Rel : RelT) : Prop := (∀ n V L V2 L2, Rel n V L V2 L2 → Rel (n + 1) V L V2 L2) ∧ Sim_letter Rel ∧ Sim_blank Rel ∧ Sim_fault Rel ∧ Sim_ring Rel ∧ Sim_child Rel ∧ Sim_as Rel ∧ Sim_verse Rel ∧ Sim_say Rel ∧ Sim_back Rel ∧ Sim_first Rel ∧ Sim_turn Rel ∧ Sim_beats Rel ∧ Sim_be Rel ∧ Sim_last Rel ∧ Sim_begin Rel ∧ Sim_stand Rel ∧ Sim_game Rel ∧ Sim_likely Rel ∧ Sim_see Rel ∧ Sim_forget Rel ∧ Sim_lengths Rel ∧ Sim_from Rel ∧ Sim_rounds Rel ∧ Sim_image Rel ∧ Sim_restore Rel ∧ Sim_count Rel ∧ Sim_digest Rel
theorem cal_RL_13 : Cal RL 13 RX4 yX4_letter cX4_letter 2 (some .int) 1 := ⟨q_m_RL_13, q_i_yX4_letter, q_s_yX4_letter, q_in_RX4, q_c_yX4_letter, by decide +kernel⟩
theorem cal_RL_17 : Cal RL 17 RX5 yX5_letter cX5_letter 2 (some .int) 1 := ⟨q_m_RL_17, q_i_yX5_letter, q_s_yX5_letter, q_in_RX5, q_c_yX5_letter, by decide +kernel⟩
theorem cal_RL_18 : Cal RL 18 RX4 yX4_blank cX4_blank 2 (some .int) 0 := ⟨q_m_RL_18, q_i_yX4_blank, q_s_yX4_blank, q_in_RX4, q_c_yX4_blank, by decide +kernel⟩
theorem cal_RL_22 : Cal RL 22 RX5 yX5_blank cX5_blank 2 (some .int) 0 := ⟨q_m_RL_22, q_i_yX5_blank, q_s_yX5_blank, q_in_RX5, q_c_yX5_blank, by decide +kernel⟩
theorem cal_RL_23 : Cal RL 23 RX4 yX4_fault cX4_fault 1 (some .int) 0 := ⟨q_m_RL_23, q_i_yX4_fault, q_s_yX4_fault, q_in_RX4, q_c_yX4_fault, by decide +kernel⟩
theorem cal_RL_26 : Cal RL 26 RX5 yX5_fault cX5_fault 1 (some .int) 0 := ⟨q_m_RL_26, q_i_yX5_fault, q_s_yX5_fault, q_in_RX5, q_c_yX5_fault, by decide +kernel⟩
theorem cal_RL_27 : Cal RL 27 RX4 yX4_ring cX4_ring 1 (some .int) 0 := ⟨q_m_RL_27, q_i_yX4_ring, q_s_yX4_ring, q_in_RX4, q_c_yX4_ring, by decide +kernel⟩
theorem cal_RL_30 : Cal RL 30 RX5 yX5_ring cX5_ring 2 (some .int) 0 := ⟨q_m_RL_30, q_i_yX5_ring, q_s_yX5_ring, q_in_RX5, q_c_yX5_ring, by decide +kernel⟩
theorem cal_RL_31 : Cal RL 31 RX4 yX4_child cX4_child 4 (some .int) 2 := ⟨q_m_RL_31, q_i_yX4_child, q_s_yX4_child, q_in_RX4, q_c_yX4_child, by decide +kernel⟩
theorem cal_RL_35 : Cal RL 35 RX5 yX5_child cX5_child 3 (some .int) 2 := ⟨q_m_RL_35, q_i_yX5_child, q_s_yX5_child, q_in_RX5, q_c_yX5_child, by decide +kernel⟩
theorem cal_RL_36 : Cal RL 36 RX4 yX4_as cX4_as 5 (some .int) 2 := ⟨q_m_RL_36, q_i_yX4_as, q_s_yX4_as, q_in_RX4, q_c_yX4_as, by decide +kernel⟩
theorem cal_RL_39 : Cal RL 39 RX5 yX5_as cX5_as 4 (some .int) 2 := ⟨q_m_RL_39, q_i_yX5_as, q_s_yX5_as, q_in_RX5, q_c_yX5_as, by decide +kernel⟩
theorem cal_RL_40 : Cal RL 40 RX4 yX4_verse cX4_verse 4 (some .int) 2 := ⟨q_m_RL_40, q_i_yX4_verse, q_s_yX4_verse, q_in_RX4, q_c_yX4_verse, by decide +kernel⟩
theorem cal_RL_43 : Cal RL 43 RX5 yX5_verse cX5_verse 3 (some .int) 2 := ⟨q_m_RL_43, q_i_yX5_verse, q_s_yX5_verse, q_in_RX5, q_c_yX5_verse, by decide +kernel⟩
theorem cal_RL_44 : Cal RL 44 RX4 yX4_say cX4_say 2 (some .int) 1 := ⟨q_m_RL_44, q_i_yX4_say, q_s_yX4_say, q_in_RX4, q_c_yX4_say, by decide +kernel⟩
theorem cal_RL_47 : Cal RL 47 RX5 yX5_say cX5_say 2 (some .int) 1 := ⟨q_m_RL_47, q_i_yX5_say, q_s_yX5_say, q_in_RX5, q_c_yX5_say, by decide +kernel⟩
theorem cal_RL_48 : Cal RL 48 RX4 yX4_back cX4_back 2 (some .int) 1 := ⟨q_m_RL_48, q_i_yX4_back, q_s_yX4_back, q_in_RX4, q_c_yX4_back, by decide +kernel⟩
theorem cal_RL_51 : Cal RL 51 RX5 yX5_back cX5_back 2 (some .int) 1 := ⟨q_m_RL_51, q_i_yX5_back, q_s_yX5_back, q_in_RX5, q_c_yX5_back, by decide +kernel⟩
theorem cal_RL_52 : Cal RL 52 RX4 yX4_first cX4_first 3 (some .int) 1 := ⟨q_m_RL_52, q_i_yX4_first, q_s_yX4_first, q_in_RX4, q_c_yX4_first, by decide +kernel⟩
theorem cal_RL_55 : Cal RL 55 RX5 yX5_first cX5_first 3 (some .int) 1 := ⟨q_m_RL_55, q_i_yX5_first, q_s_yX5_first, q_in_RX5, q_c_yX5_first, by decide +kernel⟩
theorem cal_RL_56 : Cal RL 56 RX4 yX4_turn cX4_turn 2 (some .int) 0 := ⟨q_m_RL_56, q_i_yX4_turn, q_s_yX4_turn, q_in_RX4, q_c_yX4_turn, by decide +kernel⟩
theorem cal_RL_59 : Cal RL 59 RX5 yX5_turn cX5_turn 1 (some .int) 0 := ⟨q_m_RL_59, q_i_yX5_turn, q_s_yX5_turn, q_in_RX5, q_c_yX5_turn, by decide +kernel⟩
theorem cal_RL_60 : Cal RL 60 RX4 yX4_beats cX4_beats 4 (some .int) 2 := ⟨q_m_RL_60, q_i_yX4_beats, q_s_yX4_beats, q_in_RX4, q_c_yX4_beats, by decide +kernel⟩
theorem cal_RL_63 : Cal RL 63 RX5 yX5_beats cX5_beats 4 (some .int) 2 := ⟨q_m_RL_63, q_i_yX5_beats, q_s_yX5_beats, q_in_RX5, q_c_yX5_beats, by decide +kernel⟩
theorem cal_RL_64 : Cal RL 64 RX4 yX4_be cX4_be 4 (some .int) 2 := ⟨q_m_RL_64, q_i_yX4_be, q_s_yX4_be, q_in_RX4, q_c_yX4_be, by decide +kernel⟩
theorem cal_RL_67 : Cal RL 67 RX5 yX5_be cX5_be 4 (some .int) 2 := ⟨q_m_RL_67, q_i_yX5_be, q_s_yX5_be, q_in_RX5, q_c_yX5_be, by decide +kernel⟩
theorem cal_RL_68 : Cal RL 68 RX4 yX4_last cX4_last 2 (some .int) 1 := ⟨q_m_RL_68, q_i_yX4_last, q_s_yX4_last, q_in_RX4, q_c_yX4_last, by decide +kernel⟩
theorem cal_RL_71 : Cal RL 71 RX5 yX5_last cX5_last 2 (some .int) 1 := ⟨q_m_RL_71, q_i_yX5_last, q_s_yX5_last, q_in_RX5, q_c_yX5_last, by decide +kernel⟩
theorem cal_RL_72 : Cal RL 72 RX4 yX4_begin cX4_begin 3 (some .int) 2 := ⟨q_m_RL_72, q_i_yX4_begin, q_s_yX4_begin, q_in_RX4, q_c_yX4_begin, by decide +kernel⟩
theorem cal_RL_75 : Cal RL 75 RX5 yX5_begin cX5_begin 3 (some .int) 2 := ⟨q_m_RL_75, q_i_yX5_begin, q_s_yX5_begin, q_in_RX5, q_c_yX5_begin, by decide +kernel⟩
theorem cal_RL_76 : Cal RL 76 RX4 yX4_stand cX4_stand 3 (some .int) 2 := ⟨q_m_RL_76, q_i_yX4_stand, q_s_yX4_stand, q_in_RX4, q_c_yX4_stand, by decide +kernel⟩
theorem cal_RL_79 : Cal RL 79 RX5 yX5_stand cX5_stand 3 (some .int) 2 := ⟨q_m_RL_79, q_i_yX5_stand, q_s_yX5_stand, q_in_RX5, q_c_yX5_stand, by decide +kernel⟩
theorem cal_RL_80 : Cal RL 80 RX4 yX4_game cX4_game 4 (some .int) 3 := ⟨q_m_RL_80, q_i_yX4_game, q_s_yX4_game, q_in_RX4, q_c_yX4_game, by decide +kernel⟩
theorem cal_RL_84 : Cal RL 84 RX5 yX5_game cX5_game 4 (some .int) 3 := ⟨q_m_RL_84, q_i_yX5_game, q_s_yX5_game, q_in_RX5, q_c_yX5_game, by decide +kernel⟩
theorem cal_RL_85 : Cal RL 85 RX4 yX4_likely cX4_likely 3 (some .int) 2 := ⟨q_m_RL_85, q_i_yX4_likely, q_s_yX4_likely, q_in_RX4, q_c_yX4_likely, by decide +kernel⟩
theorem cal_RL_88 : Cal RL 88 RX5 yX5_likely cX5_likely 3 (some .int) 2 := ⟨q_m_RL_88, q_i_yX5_likely, q_s_yX5_likely, q_in_RX5, q_c_yX5_likely, by decide +kernel⟩
theorem cal_RL_89 : Cal RL 89 RX4 yX4_see cX4_see 3 (some .int) 2 := ⟨q_m_RL_89, q_i_yX4_see, q_s_yX4_see, q_in_RX4, q_c_yX4_see, by decide +kernel⟩
theorem cal_RL_92 : Cal RL 92 RX5 yX5_see cX5_see 3 (some .int) 2 := ⟨q_m_RL_92, q_i_yX5_see, q_s_yX5_see, q_in_RX5, q_c_yX5_see, by decide +kernel⟩
theorem cal_RL_93 : Cal RL 93 RX4 yX4_forget cX4_forget 2 (some .int) 0 := ⟨q_m_RL_93, q_i_yX4_forget, q_s_yX4_forget, q_in_RX4, q_c_yX4_forget, by decide +kernel⟩
theorem cal_RL_96 : Cal RL 96 RX5 yX5_forget cX5_forget 2 (some .int) 0 := ⟨q_m_RL_96, q_i_yX5_forget, q_s_yX5_forget, q_in_RX5, q_c_yX5_forget, by decide +kernel⟩
theorem cal_RL_97 : Cal RL 97 RX4 yX4_lengths cX4_lengths 1 (some .int) 0 := ⟨q_m_RL_97, q_i_yX4_lengths, q_s_yX4_lengths, q_in_RX4, q_c_yX4_lengths, by decide +kernel⟩
theorem cal_RL_100 : Cal RL 100 RX5 yX5_lengths cX5_lengths 1 (some .int) 0 := ⟨q_m_RL_100, q_i_yX5_lengths, q_s_yX5_lengths, q_in_RX5, q_c_yX5_lengths, by decide +kernel⟩
theorem cal_RL_101 : Cal RL 101 RX4 yX4_from cX4_from 1 (some .int) 0 := ⟨q_m_RL_101, q_i_yX4_from, q_s_yX4_from, q_in_RX4, q_c_yX4_from, by decide +kernel⟩
theorem cal_RL_104 : Cal RL 104 RX5 yX5_from cX5_from 1 (some .int) 0 := ⟨q_m_RL_104, q_i_yX5_from, q_s_yX5_from, q_in_RX5, q_c_yX5_from, by decide +kernel⟩
theorem cal_RL_105 : Cal RL 105 RX4 yX4_rounds cX4_rounds 4 (some .int) 3 := ⟨q_m_RL_105, q_i_yX4_rounds, q_s_yX4_rounds, q_in_RX4, q_c_yX4_rounds, by decide +kernel⟩
theorem cal_RL_108 : Cal RL 108 RX5 yX5_rounds cX5_rounds 4 (some .int) 3 := ⟨q_m_RL_108, q_i_yX5_rounds, q_s_yX5_rounds, q_in_RX5, q_c_yX5_rounds, by decide +kernel⟩
theorem cal_RL_109 : Cal RL 109 RX4 yX4_image cX4_image 1 (some .int) 0 := ⟨q_m_RL_109, q_i_yX4_image, q_s_yX4_image, q_in_RX4, q_c_yX4_image, by decide +kernel⟩
theorem cal_RL_112 : Cal RL 112 RX5 yX5_image cX5_image 2 (some .int) 0 := ⟨q_m_RL_112, q_i_yX5_image, q_s_yX5_image, q_in_RX5, q_c_yX5_image, by decide +kernel⟩
theorem cal_RL_113 : Cal RL 113 RX4 yX4_restore cX4_restore 1 (some .int) 0 := ⟨q_m_RL_113, q_i_yX4_restore, q_s_yX4_restore, q_in_RX4, q_c_yX4_restore, by decide +kernel⟩
theorem cal_RL_116 : Cal RL 116 RX5 yX5_restore cX5_restore 2 (some .int) 0 := ⟨q_m_RL_116, q_i_yX5_restore, q_s_yX5_restore, q_in_RX5, q_c_yX5_restore, by decide +kernel⟩
theorem cal_RL_117 : Cal RL 117 RX4 yX4_count cX4_count 3 (some .int) 1 := ⟨q_m_RL_117, q_i_yX4_count, q_s_yX4_count, q_in_RX4, q_c_yX4_count, by decide +kernel⟩
theorem cal_RL_120 : Cal RL 120 RX5 yX5_count cX5_count 2 (some .int) 1 := ⟨q_m_RL_120, q_i_yX5_count, q_s_yX5_count, q_in_RX5, q_c_yX5_count, by decide +kernel⟩
theorem cal_RL_121 : Cal RL 121 RX4 yX4_digest cX4_digest 6 (some .long) 0 := ⟨q_m_RL_121, q_i_yX4_digest, q_s_yX4_digest, q_in_RX4, q_c_yX4_digest, by decide +kernel⟩
theorem cal_RL_125 : Cal RL 125 RX5 yX5_digest cX5_digest 3 (some .long) 0 := ⟨q_m_RL_125, q_i_yX5_digest, q_s_yX5_digest, q_in_RX5, q_c_yX5_digest, by decide +kernel⟩
theorem law_add (j d : Nat) (x : Int32) (h : nI d = x) : nI (4 * j) + x = nI (4 * j + d) := by rw [← h, nI_add]
set_option maxRecDepth 100000 in
theorem law_letter {X : XT} {hd : Cond} {Q : State → Prop} {E : EvT} {Z : Nat → Prop} {A B : Nat → Nat} {b L kc kn : Nat} {xs : Nat → Int32} (C : Cx X hd code 4 RL 2048 84000) (K : Ck X E Z) (hX : va_X b L xs X.2.2.2.2.1 X.2.2.2.2.1.heap) (hbl : b < X.2.2.2.2.1.heap.size) (hbA : ¬ Z b) (hL : L ≤ 2048) (hkc : kc ≤ X.2.2.2.1.cells) (hkn : kn ≤ X.2.2.2.1.slots) {Rel : RelT} (hs : Sim_letter Rel) {j : Nat} (hj : j < 512) (hjL : 4 * j + 4 ≤ L) {V V2 : Nat → Nat → Int32} {L' L2 : Nat → Int64} (hR : Rel j V L' V2 L2) (hnext : ∀ (V : Nat → Nat → Int32) (L' : Nat → Int64) (V2 : Nat → Nat → Int32) (L2 : Nat → Int64), Rel (j + 1) V L' V2 L2 → Wn X 4 E Z Q kc kn 808 [(0, .ref b), (1, .ref (A 0)), (2, .ref (B 0)), (3, .int (nI (4 * j)))] [] ([] ++ (cw E A V L' ++ mw E B V2 L2))) : Wn X 4 E Z Q kc kn 156 [(0, .ref b), (1, .ref (A 0)), (2, .ref (B 0)), (3, .int (nI (4 * j)))] [] ([] ++ (cw E A V L' ++ mw E B V2 L2)) := by
  obtain ⟨r, V1, L1, V3, L3, h1, h2, h3⟩ := hs _ V L' V2 L2 (xs (4 * j + 1)) hj hR
  refine n_aload C dL_law_156 1 rfl rfl ?_
  refine n_aload C dL_law_157 0 rfl rfl ?_
  refine l_iload C dL_law_158 3 rfl rfl ?_
  refine n_iconst C dL_law_159 ki_1 ?_
  refine l_iadd C dL_law_160 ?_
  refine l_ld C hX hbl hbA (law_add j 1 _ (by decide)) (show 4 * j + 1 < L by omega) hL dL_law_161 ?_
  refine l_callI C K cal_RL_13 ⟨rfl, rfl, (Nat.le_of_ble_eq_true rfl), (Nat.le_of_ble_eq_true rfl)⟩ (t_X4_letter _ (xs (4 * j + 1)) h1) (wl := []) (wr := mw E B V2 L2) (cw_o0 E A _ _) rfl (cw_fst _ _ _ _ _ _) rfl (rest := []) rfl (Nat.le_of_ble_eq_true rfl) dL_law_162 hkc hkn ?_
  refine n_chg (w2 := cw E A V1 L1 ++ (mw E B V2 L2 ++ [])) (by rw [List.nil_append, List.append_nil]) ?_
  refine n_aload C dL_law_165 2 rfl rfl ?_
  refine n_aload C dL_law_166 0 rfl rfl ?_
  refine l_iload C dL_law_167 3 rfl rfl ?_
  refine n_iconst C dL_law_168 ki_1 ?_
  refine l_iadd C dL_law_169 ?_
  refine l_ld C hX hbl hbA (law_add j 1 _ (by decide)) (show 4 * j + 1 < L by omega) hL dL_law_170 ?_
  refine l_callI C K cal_RL_17 ⟨rfl, rfl, (Nat.le_of_ble_eq_true rfl), (Nat.le_of_ble_eq_true rfl)⟩ (t_X5_letter _ (xs (4 * j + 1)) h2) (wl := cw E A V1 L1) (wr := []) (mw_o0 E B _ _) rfl (mw_fst _ _ _ _ _ _) rfl (rest := [.int r]) rfl (Nat.le_of_ble_eq_true rfl) dL_law_171 hkc hkn ?_
  refine n_chg (w2 := [] ++ (cw E A V1 L1 ++ mw E B V3 L3)) (by rw [List.nil_append, List.append_nil]) ?_
  refine l_eq C (tgt := 808) dL_law_174 rfl ?_
  exact hnext _ _ _ _ h3
set_option maxRecDepth 100000 in
theorem law_blank {X : XT} {hd : Cond} {Q : State → Prop} {E : EvT} {Z : Nat → Prop} {A B : Nat → Nat} {b L kc kn : Nat} {xs : Nat → Int32} (C : Cx X hd code 4 RL 2048 84000) (K : Ck X E Z) (hX : va_X b L xs X.2.2.2.2.1 X.2.2.2.2.1.heap) (hbl : b < X.2.2.2.2.1.heap.size) (hbA : ¬ Z b) (hL : L ≤ 2048) (hkc : kc ≤ X.2.2.2.1.cells) (hkn : kn ≤ X.2.2.2.1.slots) {Rel : RelT} (hs : Sim_blank Rel) {j : Nat} (hj : j < 512) (hjL : 4 * j + 4 ≤ L) {V V2 : Nat → Nat → Int32} {L' L2 : Nat → Int64} (hR : Rel j V L' V2 L2) (hnext : ∀ (V : Nat → Nat → Int32) (L' : Nat → Int64) (V2 : Nat → Nat → Int32) (L2 : Nat → Int64), Rel (j + 1) V L' V2 L2 → Wn X 4 E Z Q kc kn 808 [(0, .ref b), (1, .ref (A 0)), (2, .ref (B 0)), (3, .int (nI (4 * j)))] [] ([] ++ (cw E A V L' ++ mw E B V2 L2))) : Wn X 4 E Z Q kc kn 179 [(0, .ref b), (1, .ref (A 0)), (2, .ref (B 0)), (3, .int (nI (4 * j)))] [] ([] ++ (cw E A V L' ++ mw E B V2 L2)) := by
  obtain ⟨r, V1, L1, V3, L3, h1, h2, h3⟩ := hs _ V L' V2 L2  hj hR
  refine n_aload C dL_law_179 1 rfl rfl ?_
  refine l_callI C K cal_RL_18 ⟨rfl, rfl, (Nat.le_of_ble_eq_true rfl), (Nat.le_of_ble_eq_true rfl)⟩ (t_X4_blank _  h1) (wl := []) (wr := mw E B V2 L2) (cw_o0 E A _ _) rfl (cw_fst _ _ _ _ _ _) rfl (rest := []) rfl (Nat.le_of_ble_eq_true rfl) dL_law_180 hkc hkn ?_
  refine n_chg (w2 := cw E A V1 L1 ++ (mw E B V2 L2 ++ [])) (by rw [List.nil_append, List.append_nil]) ?_
  refine n_aload C dL_law_183 2 rfl rfl ?_
  refine l_callI C K cal_RL_22 ⟨rfl, rfl, (Nat.le_of_ble_eq_true rfl), (Nat.le_of_ble_eq_true rfl)⟩ (t_X5_blank _  h2) (wl := cw E A V1 L1) (wr := []) (mw_o0 E B _ _) rfl (mw_fst _ _ _ _ _ _) rfl (rest := [.int r]) rfl (Nat.le_of_ble_eq_true rfl) dL_law_184 hkc hkn ?_
  refine n_chg (w2 := [] ++ (cw E A V1 L1 ++ mw E B V3 L3)) (by rw [List.nil_append, List.append_nil]) ?_
  refine l_eq C (tgt := 808) dL_law_187 rfl ?_
  exact hnext _ _ _ _ h3
set_option maxRecDepth 100000 in
theorem law_fault {X : XT} {hd : Cond} {Q : State → Prop} {E : EvT} {Z : Nat → Prop} {A B : Nat → Nat} {b L kc kn : Nat} {xs : Nat → Int32} (C : Cx X hd code 4 RL 2048 84000) (K : Ck X E Z) (hX : va_X b L xs X.2.2.2.2.1 X.2.2.2.2.1.heap) (hbl : b < X.2.2.2.2.1.heap.size) (hbA : ¬ Z b) (hL : L ≤ 2048) (hkc : kc ≤ X.2.2.2.1.cells) (hkn : kn ≤ X.2.2.2.1.slots) {Rel : RelT} (hs : Sim_fault Rel) {j : Nat} (hj : j < 512) (hjL : 4 * j + 4 ≤ L) {V V2 : Nat → Nat → Int32} {L' L2 : Nat → Int64} (hR : Rel j V L' V2 L2) (hnext : ∀ (V : Nat → Nat → Int32) (L' : Nat → Int64) (V2 : Nat → Nat → Int32) (L2 : Nat → Int64), Rel (j + 1) V L' V2 L2 → Wn X 4 E Z Q kc kn 808 [(0, .ref b), (1, .ref (A 0)), (2, .ref (B 0)), (3, .int (nI (4 * j)))] [] ([] ++ (cw E A V L' ++ mw E B V2 L2))) : Wn X 4 E Z Q kc kn 192 [(0, .ref b), (1, .ref (A 0)), (2, .ref (B 0)), (3, .int (nI (4 * j)))] [] ([] ++ (cw E A V L' ++ mw E B V2 L2)) := by
  obtain ⟨r, V1, L1, V3, L3, h1, h2, h3⟩ := hs _ V L' V2 L2  hj hR
  refine n_aload C dL_law_192 1 rfl rfl ?_
  refine l_callI C K cal_RL_23 ⟨rfl, rfl, (Nat.le_of_ble_eq_true rfl), (Nat.le_of_ble_eq_true rfl)⟩ (t_X4_fault _  h1) (wl := []) (wr := mw E B V2 L2) (cw_o0 E A _ _) rfl (cw_fst _ _ _ _ _ _) rfl (rest := []) rfl (Nat.le_of_ble_eq_true rfl) dL_law_193 hkc hkn ?_
  refine n_chg (w2 := cw E A V1 L1 ++ (mw E B V2 L2 ++ [])) (by rw [List.nil_append, List.append_nil]) ?_
  refine n_aload C dL_law_196 2 rfl rfl ?_
  refine l_callI C K cal_RL_26 ⟨rfl, rfl, (Nat.le_of_ble_eq_true rfl), (Nat.le_of_ble_eq_true rfl)⟩ (t_X5_fault _  h2) (wl := cw E A V1 L1) (wr := []) (mw_o0 E B _ _) rfl (mw_fst _ _ _ _ _ _) rfl (rest := [.int r]) rfl (Nat.le_of_ble_eq_true rfl) dL_law_197 hkc hkn ?_
  refine n_chg (w2 := [] ++ (cw E A V1 L1 ++ mw E B V3 L3)) (by rw [List.nil_append, List.append_nil]) ?_
  refine l_eq C (tgt := 808) dL_law_200 rfl ?_
  exact hnext _ _ _ _ h3
set_option maxRecDepth 100000 in
theorem law_ring {X : XT} {hd : Cond} {Q : State → Prop} {E : EvT} {Z : Nat → Prop} {A B : Nat → Nat} {b L kc kn : Nat} {xs : Nat → Int32} (C : Cx X hd code 4 RL 2048 84000) (K : Ck X E Z) (hX : va_X b L xs X.2.2.2.2.1 X.2.2.2.2.1.heap) (hbl : b < X.2.2.2.2.1.heap.size) (hbA : ¬ Z b) (hL : L ≤ 2048) (hkc : kc ≤ X.2.2.2.1.cells) (hkn : kn ≤ X.2.2.2.1.slots) {Rel : RelT} (hs : Sim_ring Rel) {j : Nat} (hj : j < 512) (hjL : 4 * j + 4 ≤ L) {V V2 : Nat → Nat → Int32} {L' L2 : Nat → Int64} (hR : Rel j V L' V2 L2) (hnext : ∀ (V : Nat → Nat → Int32) (L' : Nat → Int64) (V2 : Nat → Nat → Int32) (L2 : Nat → Int64), Rel (j + 1) V L' V2 L2 → Wn X 4 E Z Q kc kn 808 [(0, .ref b), (1, .ref (A 0)), (2, .ref (B 0)), (3, .int (nI (4 * j)))] [] ([] ++ (cw E A V L' ++ mw E B V2 L2))) : Wn X 4 E Z Q kc kn 205 [(0, .ref b), (1, .ref (A 0)), (2, .ref (B 0)), (3, .int (nI (4 * j)))] [] ([] ++ (cw E A V L' ++ mw E B V2 L2)) := by
  obtain ⟨r, V1, L1, V3, L3, h1, h2, h3⟩ := hs _ V L' V2 L2  hj hR
  refine n_aload C dL_law_205 1 rfl rfl ?_
  refine l_callI C K cal_RL_27 ⟨rfl, rfl, (Nat.le_of_ble_eq_true rfl), (Nat.le_of_ble_eq_true rfl)⟩ (t_X4_ring _  h1) (wl := []) (wr := mw E B V2 L2) (cw_o0 E A _ _) rfl (cw_fst _ _ _ _ _ _) rfl (rest := []) rfl (Nat.le_of_ble_eq_true rfl) dL_law_206 hkc hkn ?_
  refine n_chg (w2 := cw E A V1 L1 ++ (mw E B V2 L2 ++ [])) (by rw [List.nil_append, List.append_nil]) ?_
  refine n_aload C dL_law_209 2 rfl rfl ?_
  refine l_callI C K cal_RL_30 ⟨rfl, rfl, (Nat.le_of_ble_eq_true rfl), (Nat.le_of_ble_eq_true rfl)⟩ (t_X5_ring _  h2) (wl := cw E A V1 L1) (wr := []) (mw_o0 E B _ _) rfl (mw_fst _ _ _ _ _ _) rfl (rest := [.int r]) rfl (Nat.le_of_ble_eq_true rfl) dL_law_210 hkc hkn ?_
  refine n_chg (w2 := [] ++ (cw E A V1 L1 ++ mw E B V3 L3)) (by rw [List.nil_append, List.append_nil]) ?_
  refine l_eq C (tgt := 808) dL_law_213 rfl ?_
  exact hnext _ _ _ _ h3
set_option maxRecDepth 100000 in
theorem law_child {X : XT} {hd : Cond} {Q : State → Prop} {E : EvT} {Z : Nat → Prop} {A B : Nat → Nat} {b L kc kn : Nat} {xs : Nat → Int32} (C : Cx X hd code 4 RL 2048 84000) (K : Ck X E Z) (hX : va_X b L xs X.2.2.2.2.1 X.2.2.2.2.1.heap) (hbl : b < X.2.2.2.2.1.heap.size) (hbA : ¬ Z b) (hL : L ≤ 2048) (hkc : kc ≤ X.2.2.2.1.cells) (hkn : kn ≤ X.2.2.2.1.slots) {Rel : RelT} (hs : Sim_child Rel) {j : Nat} (hj : j < 512) (hjL : 4 * j + 4 ≤ L) {V V2 : Nat → Nat → Int32} {L' L2 : Nat → Int64} (hR : Rel j V L' V2 L2) (hnext : ∀ (V : Nat → Nat → Int32) (L' : Nat → Int64) (V2 : Nat → Nat → Int32) (L2 : Nat → Int64), Rel (j + 1) V L' V2 L2 → Wn X 4 E Z Q kc kn 808 [(0, .ref b), (1, .ref (A 0)), (2, .ref (B 0)), (3, .int (nI (4 * j)))] [] ([] ++ (cw E A V L' ++ mw E B V2 L2))) : Wn X 4 E Z Q kc kn 218 [(0, .ref b), (1, .ref (A 0)), (2, .ref (B 0)), (3, .int (nI (4 * j)))] [] ([] ++ (cw E A V L' ++ mw E B V2 L2)) := by
  obtain ⟨r, V1, L1, V3, L3, h1, h2, h3⟩ := hs _ V L' V2 L2 (xs (4 * j + 1)) (xs (4 * j + 2)) hj hR
  refine n_aload C dL_law_218 1 rfl rfl ?_
  refine n_aload C dL_law_219 0 rfl rfl ?_
  refine l_iload C dL_law_220 3 rfl rfl ?_
  refine n_iconst C dL_law_221 ki_1 ?_
  refine l_iadd C dL_law_222 ?_
  refine l_ld C hX hbl hbA (law_add j 1 _ (by decide)) (show 4 * j + 1 < L by omega) hL dL_law_223 ?_
  refine n_aload C dL_law_224 0 rfl rfl ?_
  refine l_iload C dL_law_225 3 rfl rfl ?_
  refine n_iconst C dL_law_226 ki_2 ?_
  refine l_iadd C dL_law_227 ?_
  refine l_ld C hX hbl hbA (law_add j 2 _ (by decide)) (show 4 * j + 2 < L by omega) hL dL_law_228 ?_
  refine l_callI C K cal_RL_31 ⟨rfl, rfl, (Nat.le_of_ble_eq_true rfl), (Nat.le_of_ble_eq_true rfl)⟩ (t_X4_child _ (xs (4 * j + 1)) (xs (4 * j + 2)) h1) (wl := []) (wr := mw E B V2 L2) (cw_o0 E A _ _) rfl (cw_fst _ _ _ _ _ _) rfl (rest := []) rfl (Nat.le_of_ble_eq_true rfl) dL_law_229 hkc hkn ?_
  refine n_chg (w2 := cw E A V1 L1 ++ (mw E B V2 L2 ++ [])) (by rw [List.nil_append, List.append_nil]) ?_
  refine n_aload C dL_law_232 2 rfl rfl ?_
  refine n_aload C dL_law_233 0 rfl rfl ?_
  refine l_iload C dL_law_234 3 rfl rfl ?_
  refine n_iconst C dL_law_235 ki_1 ?_
  refine l_iadd C dL_law_236 ?_
  refine l_ld C hX hbl hbA (law_add j 1 _ (by decide)) (show 4 * j + 1 < L by omega) hL dL_law_237 ?_
  refine n_aload C dL_law_238 0 rfl rfl ?_
  refine l_iload C dL_law_239 3 rfl rfl ?_
  refine n_iconst C dL_law_240 ki_2 ?_
  refine l_iadd C dL_law_241 ?_
  refine l_ld C hX hbl hbA (law_add j 2 _ (by decide)) (show 4 * j + 2 < L by omega) hL dL_law_242 ?_
  refine l_callI C K cal_RL_35 ⟨rfl, rfl, (Nat.le_of_ble_eq_true rfl), (Nat.le_of_ble_eq_true rfl)⟩ (t_X5_child _ (xs (4 * j + 1)) (xs (4 * j + 2)) h2) (wl := cw E A V1 L1) (wr := []) (mw_o0 E B _ _) rfl (mw_fst _ _ _ _ _ _) rfl (rest := [.int r]) rfl (Nat.le_of_ble_eq_true rfl) dL_law_243 hkc hkn ?_
  refine n_chg (w2 := [] ++ (cw E A V1 L1 ++ mw E B V3 L3)) (by rw [List.nil_append, List.append_nil]) ?_
  refine l_eq C (tgt := 808) dL_law_246 rfl ?_
  exact hnext _ _ _ _ h3
set_option maxRecDepth 100000 in
theorem law_as {X : XT} {hd : Cond} {Q : State → Prop} {E : EvT} {Z : Nat → Prop} {A B : Nat → Nat} {b L kc kn : Nat} {xs : Nat → Int32} (C : Cx X hd code 4 RL 2048 84000) (K : Ck X E Z) (hX : va_X b L xs X.2.2.2.2.1 X.2.2.2.2.1.heap) (hbl : b < X.2.2.2.2.1.heap.size) (hbA : ¬ Z b) (hL : L ≤ 2048) (hkc : kc ≤ X.2.2.2.1.cells) (hkn : kn ≤ X.2.2.2.1.slots) {Rel : RelT} (hs : Sim_as Rel) {j : Nat} (hj : j < 512) (hjL : 4 * j + 4 ≤ L) {V V2 : Nat → Nat → Int32} {L' L2 : Nat → Int64} (hR : Rel j V L' V2 L2) (hnext : ∀ (V : Nat → Nat → Int32) (L' : Nat → Int64) (V2 : Nat → Nat → Int32) (L2 : Nat → Int64), Rel (j + 1) V L' V2 L2 → Wn X 4 E Z Q kc kn 808 [(0, .ref b), (1, .ref (A 0)), (2, .ref (B 0)), (3, .int (nI (4 * j)))] [] ([] ++ (cw E A V L' ++ mw E B V2 L2))) : Wn X 4 E Z Q kc kn 251 [(0, .ref b), (1, .ref (A 0)), (2, .ref (B 0)), (3, .int (nI (4 * j)))] [] ([] ++ (cw E A V L' ++ mw E B V2 L2)) := by
  obtain ⟨r, V1, L1, V3, L3, h1, h2, h3⟩ := hs _ V L' V2 L2 (xs (4 * j + 1)) (xs (4 * j + 2)) hj hR
  obtain ⟨h1, e1, e2⟩ := h1
  subst h1
  rw [e1, e2] at h3
  obtain ⟨h2, e3, e4⟩ := h2
  rw [e3, e4] at h3
  refine n_aload C dL_law_251 1 rfl rfl ?_
  refine n_aload C dL_law_252 0 rfl rfl ?_
  refine l_iload C dL_law_253 3 rfl rfl ?_
  refine n_iconst C dL_law_254 ki_1 ?_
  refine l_iadd C dL_law_255 ?_
  refine l_ld C hX hbl hbA (law_add j 1 _ (by decide)) (show 4 * j + 1 < L by omega) hL dL_law_256 ?_
  refine n_aload C dL_law_257 0 rfl rfl ?_
  refine l_iload C dL_law_258 3 rfl rfl ?_
  refine n_iconst C dL_law_259 ki_2 ?_
  refine l_iadd C dL_law_260 ?_
  refine l_ld C hX hbl hbA (law_add j 2 _ (by decide)) (show 4 * j + 2 < L by omega) hL dL_law_261 ?_
  refine l_callI C K cal_RL_36 ⟨rfl, rfl, (Nat.le_of_ble_eq_true rfl), (Nat.le_of_ble_eq_true rfl)⟩ (t_X4_as _ (xs (4 * j + 1)) (xs (4 * j + 2))) (wl := []) (wr := mw E B V2 L2) (cw_o0 E A _ _) rfl (cw_fst _ _ _ _ _ _) rfl (rest := []) rfl (Nat.le_of_ble_eq_true rfl) dL_law_262 hkc hkn ?_
  refine n_chg (w2 := cw E A V L' ++ (mw E B V2 L2 ++ [])) (by rw [List.nil_append, List.append_nil]) ?_
  refine n_aload C dL_law_265 2 rfl rfl ?_
  refine n_aload C dL_law_266 0 rfl rfl ?_
  refine l_iload C dL_law_267 3 rfl rfl ?_
  refine n_iconst C dL_law_268 ki_1 ?_
  refine l_iadd C dL_law_269 ?_
  refine l_ld C hX hbl hbA (law_add j 1 _ (by decide)) (show 4 * j + 1 < L by omega) hL dL_law_270 ?_
  refine n_aload C dL_law_271 0 rfl rfl ?_
  refine l_iload C dL_law_272 3 rfl rfl ?_
  refine n_iconst C dL_law_273 ki_2 ?_
  refine l_iadd C dL_law_274 ?_
  refine l_ld C hX hbl hbA (law_add j 2 _ (by decide)) (show 4 * j + 2 < L by omega) hL dL_law_275 ?_
  refine l_callI C K cal_RL_39 ⟨rfl, rfl, (Nat.le_of_ble_eq_true rfl), (Nat.le_of_ble_eq_true rfl)⟩ (t_X5_as _ (xs (4 * j + 1)) (xs (4 * j + 2)) h2) (wl := cw E A V L') (wr := []) (mw_o0 E B _ _) rfl (mw_fst _ _ _ _ _ _) rfl (rest := [.int (f_X4_as V L' (xs (4 * j + 1)) (xs (4 * j + 2)))]) rfl (Nat.le_of_ble_eq_true rfl) dL_law_276 hkc hkn ?_
  refine n_chg (w2 := [] ++ (cw E A V L' ++ mw E B V2 L2)) (by rw [List.nil_append, List.append_nil]) ?_
  refine l_eq C (tgt := 808) dL_law_279 rfl ?_
  exact hnext _ _ _ _ h3
set_option maxRecDepth 100000 in
theorem law_verse {X : XT} {hd : Cond} {Q : State → Prop} {E : EvT} {Z : Nat → Prop} {A B : Nat → Nat} {b L kc kn : Nat} {xs : Nat → Int32} (C : Cx X hd code 4 RL 2048 84000) (K : Ck X E Z) (hX : va_X b L xs X.2.2.2.2.1 X.2.2.2.2.1.heap) (hbl : b < X.2.2.2.2.1.heap.size) (hbA : ¬ Z b) (hL : L ≤ 2048) (hkc : kc ≤ X.2.2.2.1.cells) (hkn : kn ≤ X.2.2.2.1.slots) {Rel : RelT} (hs : Sim_verse Rel) {j : Nat} (hj : j < 512) (hjL : 4 * j + 4 ≤ L) {V V2 : Nat → Nat → Int32} {L' L2 : Nat → Int64} (hR : Rel j V L' V2 L2) (hnext : ∀ (V : Nat → Nat → Int32) (L' : Nat → Int64) (V2 : Nat → Nat → Int32) (L2 : Nat → Int64), Rel (j + 1) V L' V2 L2 → Wn X 4 E Z Q kc kn 808 [(0, .ref b), (1, .ref (A 0)), (2, .ref (B 0)), (3, .int (nI (4 * j)))] [] ([] ++ (cw E A V L' ++ mw E B V2 L2))) : Wn X 4 E Z Q kc kn 284 [(0, .ref b), (1, .ref (A 0)), (2, .ref (B 0)), (3, .int (nI (4 * j)))] [] ([] ++ (cw E A V L' ++ mw E B V2 L2)) := by
  obtain ⟨r, V1, L1, V3, L3, h1, h2, h3⟩ := hs _ V L' V2 L2 (xs (4 * j + 1)) (xs (4 * j + 2)) hj hR
  refine n_aload C dL_law_284 1 rfl rfl ?_
  refine n_aload C dL_law_285 0 rfl rfl ?_
  refine l_iload C dL_law_286 3 rfl rfl ?_
  refine n_iconst C dL_law_287 ki_1 ?_
  refine l_iadd C dL_law_288 ?_
  refine l_ld C hX hbl hbA (law_add j 1 _ (by decide)) (show 4 * j + 1 < L by omega) hL dL_law_289 ?_
  refine n_aload C dL_law_290 0 rfl rfl ?_
  refine l_iload C dL_law_291 3 rfl rfl ?_
  refine n_iconst C dL_law_292 ki_2 ?_
  refine l_iadd C dL_law_293 ?_
  refine l_ld C hX hbl hbA (law_add j 2 _ (by decide)) (show 4 * j + 2 < L by omega) hL dL_law_294 ?_
  refine l_callI C K cal_RL_40 ⟨rfl, rfl, (Nat.le_of_ble_eq_true rfl), (Nat.le_of_ble_eq_true rfl)⟩ (t_X4_verse _ (xs (4 * j + 1)) (xs (4 * j + 2)) h1) (wl := []) (wr := mw E B V2 L2) (cw_o0 E A _ _) rfl (cw_fst _ _ _ _ _ _) rfl (rest := []) rfl (Nat.le_of_ble_eq_true rfl) dL_law_295 hkc hkn ?_
  refine n_chg (w2 := cw E A V1 L1 ++ (mw E B V2 L2 ++ [])) (by rw [List.nil_append, List.append_nil]) ?_
  refine n_aload C dL_law_298 2 rfl rfl ?_
  refine n_aload C dL_law_299 0 rfl rfl ?_
  refine l_iload C dL_law_300 3 rfl rfl ?_
  refine n_iconst C dL_law_301 ki_1 ?_
  refine l_iadd C dL_law_302 ?_
  refine l_ld C hX hbl hbA (law_add j 1 _ (by decide)) (show 4 * j + 1 < L by omega) hL dL_law_303 ?_
  refine n_aload C dL_law_304 0 rfl rfl ?_
  refine l_iload C dL_law_305 3 rfl rfl ?_
  refine n_iconst C dL_law_306 ki_2 ?_
  refine l_iadd C dL_law_307 ?_
  refine l_ld C hX hbl hbA (law_add j 2 _ (by decide)) (show 4 * j + 2 < L by omega) hL dL_law_308 ?_
  refine l_callI C K cal_RL_43 ⟨rfl, rfl, (Nat.le_of_ble_eq_true rfl), (Nat.le_of_ble_eq_true rfl)⟩ (t_X5_verse _ (xs (4 * j + 1)) (xs (4 * j + 2)) h2) (wl := cw E A V1 L1) (wr := []) (mw_o0 E B _ _) rfl (mw_fst _ _ _ _ _ _) rfl (rest := [.int r]) rfl (Nat.le_of_ble_eq_true rfl) dL_law_309 hkc hkn ?_
  refine n_chg (w2 := [] ++ (cw E A V1 L1 ++ mw E B V3 L3)) (by rw [List.nil_append, List.append_nil]) ?_
  refine l_eq C (tgt := 808) dL_law_312 rfl ?_
  exact hnext _ _ _ _ h3
set_option maxRecDepth 100000 in
theorem law_say {X : XT} {hd : Cond} {Q : State → Prop} {E : EvT} {Z : Nat → Prop} {A B : Nat → Nat} {b L kc kn : Nat} {xs : Nat → Int32} (C : Cx X hd code 4 RL 2048 84000) (K : Ck X E Z) (hX : va_X b L xs X.2.2.2.2.1 X.2.2.2.2.1.heap) (hbl : b < X.2.2.2.2.1.heap.size) (hbA : ¬ Z b) (hL : L ≤ 2048) (hkc : kc ≤ X.2.2.2.1.cells) (hkn : kn ≤ X.2.2.2.1.slots) {Rel : RelT} (hs : Sim_say Rel) {j : Nat} (hj : j < 512) (hjL : 4 * j + 4 ≤ L) {V V2 : Nat → Nat → Int32} {L' L2 : Nat → Int64} (hR : Rel j V L' V2 L2) (hnext : ∀ (V : Nat → Nat → Int32) (L' : Nat → Int64) (V2 : Nat → Nat → Int32) (L2 : Nat → Int64), Rel (j + 1) V L' V2 L2 → Wn X 4 E Z Q kc kn 808 [(0, .ref b), (1, .ref (A 0)), (2, .ref (B 0)), (3, .int (nI (4 * j)))] [] ([] ++ (cw E A V L' ++ mw E B V2 L2))) : Wn X 4 E Z Q kc kn 317 [(0, .ref b), (1, .ref (A 0)), (2, .ref (B 0)), (3, .int (nI (4 * j)))] [] ([] ++ (cw E A V L' ++ mw E B V2 L2)) := by
  obtain ⟨r, V1, L1, V3, L3, h1, h2, h3⟩ := hs _ V L' V2 L2 (xs (4 * j + 1)) hj hR
  refine n_aload C dL_law_317 1 rfl rfl ?_
  refine n_aload C dL_law_318 0 rfl rfl ?_
  refine l_iload C dL_law_319 3 rfl rfl ?_
  refine n_iconst C dL_law_320 ki_1 ?_
  refine l_iadd C dL_law_321 ?_
  refine l_ld C hX hbl hbA (law_add j 1 _ (by decide)) (show 4 * j + 1 < L by omega) hL dL_law_322 ?_
  refine l_callI C K cal_RL_44 ⟨rfl, rfl, (Nat.le_of_ble_eq_true rfl), (Nat.le_of_ble_eq_true rfl)⟩ (t_X4_say _ (xs (4 * j + 1)) h1) (wl := []) (wr := mw E B V2 L2) (cw_o0 E A _ _) rfl (cw_fst _ _ _ _ _ _) rfl (rest := []) rfl (Nat.le_of_ble_eq_true rfl) dL_law_323 hkc hkn ?_
  refine n_chg (w2 := cw E A V1 L1 ++ (mw E B V2 L2 ++ [])) (by rw [List.nil_append, List.append_nil]) ?_
  refine n_aload C dL_law_326 2 rfl rfl ?_
  refine n_aload C dL_law_327 0 rfl rfl ?_
  refine l_iload C dL_law_328 3 rfl rfl ?_
  refine n_iconst C dL_law_329 ki_1 ?_
  refine l_iadd C dL_law_330 ?_
  refine l_ld C hX hbl hbA (law_add j 1 _ (by decide)) (show 4 * j + 1 < L by omega) hL dL_law_331 ?_
  refine l_callI C K cal_RL_47 ⟨rfl, rfl, (Nat.le_of_ble_eq_true rfl), (Nat.le_of_ble_eq_true rfl)⟩ (t_X5_say _ (xs (4 * j + 1)) h2) (wl := cw E A V1 L1) (wr := []) (mw_o0 E B _ _) rfl (mw_fst _ _ _ _ _ _) rfl (rest := [.int r]) rfl (Nat.le_of_ble_eq_true rfl) dL_law_332 hkc hkn ?_
  refine n_chg (w2 := [] ++ (cw E A V1 L1 ++ mw E B V3 L3)) (by rw [List.nil_append, List.append_nil]) ?_
  refine l_eq C (tgt := 808) dL_law_335 rfl ?_
  exact hnext _ _ _ _ h3
set_option maxRecDepth 100000 in
theorem law_back {X : XT} {hd : Cond} {Q : State → Prop} {E : EvT} {Z : Nat → Prop} {A B : Nat → Nat} {b L kc kn : Nat} {xs : Nat → Int32} (C : Cx X hd code 4 RL 2048 84000) (K : Ck X E Z) (hX : va_X b L xs X.2.2.2.2.1 X.2.2.2.2.1.heap) (hbl : b < X.2.2.2.2.1.heap.size) (hbA : ¬ Z b) (hL : L ≤ 2048) (hkc : kc ≤ X.2.2.2.1.cells) (hkn : kn ≤ X.2.2.2.1.slots) {Rel : RelT} (hs : Sim_back Rel) {j : Nat} (hj : j < 512) (hjL : 4 * j + 4 ≤ L) {V V2 : Nat → Nat → Int32} {L' L2 : Nat → Int64} (hR : Rel j V L' V2 L2) (hnext : ∀ (V : Nat → Nat → Int32) (L' : Nat → Int64) (V2 : Nat → Nat → Int32) (L2 : Nat → Int64), Rel (j + 1) V L' V2 L2 → Wn X 4 E Z Q kc kn 808 [(0, .ref b), (1, .ref (A 0)), (2, .ref (B 0)), (3, .int (nI (4 * j)))] [] ([] ++ (cw E A V L' ++ mw E B V2 L2))) : Wn X 4 E Z Q kc kn 340 [(0, .ref b), (1, .ref (A 0)), (2, .ref (B 0)), (3, .int (nI (4 * j)))] [] ([] ++ (cw E A V L' ++ mw E B V2 L2)) := by
  obtain ⟨r, V1, L1, V3, L3, h1, h2, h3⟩ := hs _ V L' V2 L2 (xs (4 * j + 1)) hj hR
  refine n_aload C dL_law_340 1 rfl rfl ?_
  refine n_aload C dL_law_341 0 rfl rfl ?_
  refine l_iload C dL_law_342 3 rfl rfl ?_
  refine n_iconst C dL_law_343 ki_1 ?_
  refine l_iadd C dL_law_344 ?_
  refine l_ld C hX hbl hbA (law_add j 1 _ (by decide)) (show 4 * j + 1 < L by omega) hL dL_law_345 ?_
  refine l_callI C K cal_RL_48 ⟨rfl, rfl, (Nat.le_of_ble_eq_true rfl), (Nat.le_of_ble_eq_true rfl)⟩ (t_X4_back _ (xs (4 * j + 1)) h1) (wl := []) (wr := mw E B V2 L2) (cw_o0 E A _ _) rfl (cw_fst _ _ _ _ _ _) rfl (rest := []) rfl (Nat.le_of_ble_eq_true rfl) dL_law_346 hkc hkn ?_
  refine n_chg (w2 := cw E A V1 L1 ++ (mw E B V2 L2 ++ [])) (by rw [List.nil_append, List.append_nil]) ?_
  refine n_aload C dL_law_349 2 rfl rfl ?_
  refine n_aload C dL_law_350 0 rfl rfl ?_
  refine l_iload C dL_law_351 3 rfl rfl ?_
  refine n_iconst C dL_law_352 ki_1 ?_
  refine l_iadd C dL_law_353 ?_
  refine l_ld C hX hbl hbA (law_add j 1 _ (by decide)) (show 4 * j + 1 < L by omega) hL dL_law_354 ?_
  refine l_callI C K cal_RL_51 ⟨rfl, rfl, (Nat.le_of_ble_eq_true rfl), (Nat.le_of_ble_eq_true rfl)⟩ (t_X5_back _ (xs (4 * j + 1)) h2) (wl := cw E A V1 L1) (wr := []) (mw_o0 E B _ _) rfl (mw_fst _ _ _ _ _ _) rfl (rest := [.int r]) rfl (Nat.le_of_ble_eq_true rfl) dL_law_355 hkc hkn ?_
  refine n_chg (w2 := [] ++ (cw E A V1 L1 ++ mw E B V3 L3)) (by rw [List.nil_append, List.append_nil]) ?_
  refine l_eq C (tgt := 808) dL_law_358 rfl ?_
  exact hnext _ _ _ _ h3
set_option maxRecDepth 100000 in
theorem law_first {X : XT} {hd : Cond} {Q : State → Prop} {E : EvT} {Z : Nat → Prop} {A B : Nat → Nat} {b L kc kn : Nat} {xs : Nat → Int32} (C : Cx X hd code 4 RL 2048 84000) (K : Ck X E Z) (hX : va_X b L xs X.2.2.2.2.1 X.2.2.2.2.1.heap) (hbl : b < X.2.2.2.2.1.heap.size) (hbA : ¬ Z b) (hL : L ≤ 2048) (hkc : kc ≤ X.2.2.2.1.cells) (hkn : kn ≤ X.2.2.2.1.slots) {Rel : RelT} (hs : Sim_first Rel) {j : Nat} (hj : j < 512) (hjL : 4 * j + 4 ≤ L) {V V2 : Nat → Nat → Int32} {L' L2 : Nat → Int64} (hR : Rel j V L' V2 L2) (hnext : ∀ (V : Nat → Nat → Int32) (L' : Nat → Int64) (V2 : Nat → Nat → Int32) (L2 : Nat → Int64), Rel (j + 1) V L' V2 L2 → Wn X 4 E Z Q kc kn 808 [(0, .ref b), (1, .ref (A 0)), (2, .ref (B 0)), (3, .int (nI (4 * j)))] [] ([] ++ (cw E A V L' ++ mw E B V2 L2))) : Wn X 4 E Z Q kc kn 363 [(0, .ref b), (1, .ref (A 0)), (2, .ref (B 0)), (3, .int (nI (4 * j)))] [] ([] ++ (cw E A V L' ++ mw E B V2 L2)) := by
  obtain ⟨r, V1, L1, V3, L3, h1, h2, h3⟩ := hs _ V L' V2 L2 (xs (4 * j + 1)) hj hR
  refine n_aload C dL_law_363 1 rfl rfl ?_
  refine n_aload C dL_law_364 0 rfl rfl ?_
  refine l_iload C dL_law_365 3 rfl rfl ?_
  refine n_iconst C dL_law_366 ki_1 ?_
  refine l_iadd C dL_law_367 ?_
  refine l_ld C hX hbl hbA (law_add j 1 _ (by decide)) (show 4 * j + 1 < L by omega) hL dL_law_368 ?_
  refine l_callI C K cal_RL_52 ⟨rfl, rfl, (Nat.le_of_ble_eq_true rfl), (Nat.le_of_ble_eq_true rfl)⟩ (t_X4_first _ (xs (4 * j + 1)) h1) (wl := []) (wr := mw E B V2 L2) (cw_o0 E A _ _) rfl (cw_fst _ _ _ _ _ _) rfl (rest := []) rfl (Nat.le_of_ble_eq_true rfl) dL_law_369 hkc hkn ?_
  refine n_chg (w2 := cw E A V1 L1 ++ (mw E B V2 L2 ++ [])) (by rw [List.nil_append, List.append_nil]) ?_
  refine n_aload C dL_law_372 2 rfl rfl ?_
  refine n_aload C dL_law_373 0 rfl rfl ?_
  refine l_iload C dL_law_374 3 rfl rfl ?_
  refine n_iconst C dL_law_375 ki_1 ?_
  refine l_iadd C dL_law_376 ?_
  refine l_ld C hX hbl hbA (law_add j 1 _ (by decide)) (show 4 * j + 1 < L by omega) hL dL_law_377 ?_
  refine l_callI C K cal_RL_55 ⟨rfl, rfl, (Nat.le_of_ble_eq_true rfl), (Nat.le_of_ble_eq_true rfl)⟩ (t_X5_first _ (xs (4 * j + 1)) h2) (wl := cw E A V1 L1) (wr := []) (mw_o0 E B _ _) rfl (mw_fst _ _ _ _ _ _) rfl (rest := [.int r]) rfl (Nat.le_of_ble_eq_true rfl) dL_law_378 hkc hkn ?_
  refine n_chg (w2 := [] ++ (cw E A V1 L1 ++ mw E B V3 L3)) (by rw [List.nil_append, List.append_nil]) ?_
  refine l_eq C (tgt := 808) dL_law_381 rfl ?_
  exact hnext _ _ _ _ h3
set_option maxRecDepth 100000 in
theorem law_turn {X : XT} {hd : Cond} {Q : State → Prop} {E : EvT} {Z : Nat → Prop} {A B : Nat → Nat} {b L kc kn : Nat} {xs : Nat → Int32} (C : Cx X hd code 4 RL 2048 84000) (K : Ck X E Z) (hX : va_X b L xs X.2.2.2.2.1 X.2.2.2.2.1.heap) (hbl : b < X.2.2.2.2.1.heap.size) (hbA : ¬ Z b) (hL : L ≤ 2048) (hkc : kc ≤ X.2.2.2.1.cells) (hkn : kn ≤ X.2.2.2.1.slots) {Rel : RelT} (hs : Sim_turn Rel) {j : Nat} (hj : j < 512) (hjL : 4 * j + 4 ≤ L) {V V2 : Nat → Nat → Int32} {L' L2 : Nat → Int64} (hR : Rel j V L' V2 L2) (hnext : ∀ (V : Nat → Nat → Int32) (L' : Nat → Int64) (V2 : Nat → Nat → Int32) (L2 : Nat → Int64), Rel (j + 1) V L' V2 L2 → Wn X 4 E Z Q kc kn 808 [(0, .ref b), (1, .ref (A 0)), (2, .ref (B 0)), (3, .int (nI (4 * j)))] [] ([] ++ (cw E A V L' ++ mw E B V2 L2))) : Wn X 4 E Z Q kc kn 386 [(0, .ref b), (1, .ref (A 0)), (2, .ref (B 0)), (3, .int (nI (4 * j)))] [] ([] ++ (cw E A V L' ++ mw E B V2 L2)) := by
  obtain ⟨r, V1, L1, V3, L3, h1, h2, h3⟩ := hs _ V L' V2 L2  hj hR
  refine n_aload C dL_law_386 1 rfl rfl ?_
  refine l_callI C K cal_RL_56 ⟨rfl, rfl, (Nat.le_of_ble_eq_true rfl), (Nat.le_of_ble_eq_true rfl)⟩ (t_X4_turn _  h1) (wl := []) (wr := mw E B V2 L2) (cw_o0 E A _ _) rfl (cw_fst _ _ _ _ _ _) rfl (rest := []) rfl (Nat.le_of_ble_eq_true rfl) dL_law_387 hkc hkn ?_
  refine n_chg (w2 := cw E A V1 L1 ++ (mw E B V2 L2 ++ [])) (by rw [List.nil_append, List.append_nil]) ?_
  refine n_aload C dL_law_390 2 rfl rfl ?_
  refine l_callI C K cal_RL_59 ⟨rfl, rfl, (Nat.le_of_ble_eq_true rfl), (Nat.le_of_ble_eq_true rfl)⟩ (t_X5_turn _  h2) (wl := cw E A V1 L1) (wr := []) (mw_o0 E B _ _) rfl (mw_fst _ _ _ _ _ _) rfl (rest := [.int r]) rfl (Nat.le_of_ble_eq_true rfl) dL_law_391 hkc hkn ?_
  refine n_chg (w2 := [] ++ (cw E A V1 L1 ++ mw E B V3 L3)) (by rw [List.nil_append, List.append_nil]) ?_
  refine l_eq C (tgt := 808) dL_law_394 rfl ?_
  exact hnext _ _ _ _ h3
set_option maxRecDepth 100000 in
theorem law_beats {X : XT} {hd : Cond} {Q : State → Prop} {E : EvT} {Z : Nat → Prop} {A B : Nat → Nat} {b L kc kn : Nat} {xs : Nat → Int32} (C : Cx X hd code 4 RL 2048 84000) (K : Ck X E Z) (hX : va_X b L xs X.2.2.2.2.1 X.2.2.2.2.1.heap) (hbl : b < X.2.2.2.2.1.heap.size) (hbA : ¬ Z b) (hL : L ≤ 2048) (hkc : kc ≤ X.2.2.2.1.cells) (hkn : kn ≤ X.2.2.2.1.slots) {Rel : RelT} (hs : Sim_beats Rel) {j : Nat} (hj : j < 512) (hjL : 4 * j + 4 ≤ L) {V V2 : Nat → Nat → Int32} {L' L2 : Nat → Int64} (hR : Rel j V L' V2 L2) (hnext : ∀ (V : Nat → Nat → Int32) (L' : Nat → Int64) (V2 : Nat → Nat → Int32) (L2 : Nat → Int64), Rel (j + 1) V L' V2 L2 → Wn X 4 E Z Q kc kn 808 [(0, .ref b), (1, .ref (A 0)), (2, .ref (B 0)), (3, .int (nI (4 * j)))] [] ([] ++ (cw E A V L' ++ mw E B V2 L2))) : Wn X 4 E Z Q kc kn 399 [(0, .ref b), (1, .ref (A 0)), (2, .ref (B 0)), (3, .int (nI (4 * j)))] [] ([] ++ (cw E A V L' ++ mw E B V2 L2)) := by
  obtain ⟨r, V1, L1, V3, L3, h1, h2, h3⟩ := hs _ V L' V2 L2 (xs (4 * j + 1)) (xs (4 * j + 2)) hj hR
  refine n_aload C dL_law_399 1 rfl rfl ?_
  refine n_aload C dL_law_400 0 rfl rfl ?_
  refine l_iload C dL_law_401 3 rfl rfl ?_
  refine n_iconst C dL_law_402 ki_1 ?_
  refine l_iadd C dL_law_403 ?_
  refine l_ld C hX hbl hbA (law_add j 1 _ (by decide)) (show 4 * j + 1 < L by omega) hL dL_law_404 ?_
  refine n_aload C dL_law_405 0 rfl rfl ?_
  refine l_iload C dL_law_406 3 rfl rfl ?_
  refine n_iconst C dL_law_407 ki_2 ?_
  refine l_iadd C dL_law_408 ?_
  refine l_ld C hX hbl hbA (law_add j 2 _ (by decide)) (show 4 * j + 2 < L by omega) hL dL_law_409 ?_
  refine l_callI C K cal_RL_60 ⟨rfl, rfl, (Nat.le_of_ble_eq_true rfl), (Nat.le_of_ble_eq_true rfl)⟩ (t_X4_beats _ (xs (4 * j + 1)) (xs (4 * j + 2)) h1) (wl := []) (wr := mw E B V2 L2) (cw_o0 E A _ _) rfl (cw_fst _ _ _ _ _ _) rfl (rest := []) rfl (Nat.le_of_ble_eq_true rfl) dL_law_410 hkc hkn ?_
  refine n_chg (w2 := cw E A V1 L1 ++ (mw E B V2 L2 ++ [])) (by rw [List.nil_append, List.append_nil]) ?_
  refine n_aload C dL_law_413 2 rfl rfl ?_
  refine n_aload C dL_law_414 0 rfl rfl ?_
  refine l_iload C dL_law_415 3 rfl rfl ?_
  refine n_iconst C dL_law_416 ki_1 ?_
  refine l_iadd C dL_law_417 ?_
  refine l_ld C hX hbl hbA (law_add j 1 _ (by decide)) (show 4 * j + 1 < L by omega) hL dL_law_418 ?_
  refine n_aload C dL_law_419 0 rfl rfl ?_
  refine l_iload C dL_law_420 3 rfl rfl ?_
  refine n_iconst C dL_law_421 ki_2 ?_
  refine l_iadd C dL_law_422 ?_
  refine l_ld C hX hbl hbA (law_add j 2 _ (by decide)) (show 4 * j + 2 < L by omega) hL dL_law_423 ?_
  refine l_callI C K cal_RL_63 ⟨rfl, rfl, (Nat.le_of_ble_eq_true rfl), (Nat.le_of_ble_eq_true rfl)⟩ (t_X5_beats _ (xs (4 * j + 1)) (xs (4 * j + 2)) h2) (wl := cw E A V1 L1) (wr := []) (mw_o0 E B _ _) rfl (mw_fst _ _ _ _ _ _) rfl (rest := [.int r]) rfl (Nat.le_of_ble_eq_true rfl) dL_law_424 hkc hkn ?_
  refine n_chg (w2 := [] ++ (cw E A V1 L1 ++ mw E B V3 L3)) (by rw [List.nil_append, List.append_nil]) ?_
  refine l_eq C (tgt := 808) dL_law_427 rfl ?_
  exact hnext _ _ _ _ h3
set_option maxRecDepth 100000 in
theorem law_be {X : XT} {hd : Cond} {Q : State → Prop} {E : EvT} {Z : Nat → Prop} {A B : Nat → Nat} {b L kc kn : Nat} {xs : Nat → Int32} (C : Cx X hd code 4 RL 2048 84000) (K : Ck X E Z) (hX : va_X b L xs X.2.2.2.2.1 X.2.2.2.2.1.heap) (hbl : b < X.2.2.2.2.1.heap.size) (hbA : ¬ Z b) (hL : L ≤ 2048) (hkc : kc ≤ X.2.2.2.1.cells) (hkn : kn ≤ X.2.2.2.1.slots) {Rel : RelT} (hs : Sim_be Rel) {j : Nat} (hj : j < 512) (hjL : 4 * j + 4 ≤ L) {V V2 : Nat → Nat → Int32} {L' L2 : Nat → Int64} (hR : Rel j V L' V2 L2) (hnext : ∀ (V : Nat → Nat → Int32) (L' : Nat → Int64) (V2 : Nat → Nat → Int32) (L2 : Nat → Int64), Rel (j + 1) V L' V2 L2 → Wn X 4 E Z Q kc kn 808 [(0, .ref b), (1, .ref (A 0)), (2, .ref (B 0)), (3, .int (nI (4 * j)))] [] ([] ++ (cw E A V L' ++ mw E B V2 L2))) : Wn X 4 E Z Q kc kn 432 [(0, .ref b), (1, .ref (A 0)), (2, .ref (B 0)), (3, .int (nI (4 * j)))] [] ([] ++ (cw E A V L' ++ mw E B V2 L2)) := by
  obtain ⟨r, V1, L1, V3, L3, h1, h2, h3⟩ := hs _ V L' V2 L2 (xs (4 * j + 1)) (xs (4 * j + 2)) hj hR
  refine n_aload C dL_law_432 1 rfl rfl ?_
  refine n_aload C dL_law_433 0 rfl rfl ?_
  refine l_iload C dL_law_434 3 rfl rfl ?_
  refine n_iconst C dL_law_435 ki_1 ?_
  refine l_iadd C dL_law_436 ?_
  refine l_ld C hX hbl hbA (law_add j 1 _ (by decide)) (show 4 * j + 1 < L by omega) hL dL_law_437 ?_
  refine n_aload C dL_law_438 0 rfl rfl ?_
  refine l_iload C dL_law_439 3 rfl rfl ?_
  refine n_iconst C dL_law_440 ki_2 ?_
  refine l_iadd C dL_law_441 ?_
  refine l_ld C hX hbl hbA (law_add j 2 _ (by decide)) (show 4 * j + 2 < L by omega) hL dL_law_442 ?_
  refine l_callI C K cal_RL_64 ⟨rfl, rfl, (Nat.le_of_ble_eq_true rfl), (Nat.le_of_ble_eq_true rfl)⟩ (t_X4_be _ (xs (4 * j + 1)) (xs (4 * j + 2)) h1) (wl := []) (wr := mw E B V2 L2) (cw_o0 E A _ _) rfl (cw_fst _ _ _ _ _ _) rfl (rest := []) rfl (Nat.le_of_ble_eq_true rfl) dL_law_443 hkc hkn ?_
  refine n_chg (w2 := cw E A V1 L1 ++ (mw E B V2 L2 ++ [])) (by rw [List.nil_append, List.append_nil]) ?_
  refine n_aload C dL_law_446 2 rfl rfl ?_
  refine n_aload C dL_law_447 0 rfl rfl ?_
  refine l_iload C dL_law_448 3 rfl rfl ?_
  refine n_iconst C dL_law_449 ki_1 ?_
  refine l_iadd C dL_law_450 ?_
  refine l_ld C hX hbl hbA (law_add j 1 _ (by decide)) (show 4 * j + 1 < L by omega) hL dL_law_451 ?_
  refine n_aload C dL_law_452 0 rfl rfl ?_
  refine l_iload C dL_law_453 3 rfl rfl ?_
  refine n_iconst C dL_law_454 ki_2 ?_
  refine l_iadd C dL_law_455 ?_
  refine l_ld C hX hbl hbA (law_add j 2 _ (by decide)) (show 4 * j + 2 < L by omega) hL dL_law_456 ?_
  refine l_callI C K cal_RL_67 ⟨rfl, rfl, (Nat.le_of_ble_eq_true rfl), (Nat.le_of_ble_eq_true rfl)⟩ (t_X5_be _ (xs (4 * j + 1)) (xs (4 * j + 2)) h2) (wl := cw E A V1 L1) (wr := []) (mw_o0 E B _ _) rfl (mw_fst _ _ _ _ _ _) rfl (rest := [.int r]) rfl (Nat.le_of_ble_eq_true rfl) dL_law_457 hkc hkn ?_
  refine n_chg (w2 := [] ++ (cw E A V1 L1 ++ mw E B V3 L3)) (by rw [List.nil_append, List.append_nil]) ?_
  refine l_eq C (tgt := 808) dL_law_460 rfl ?_
  exact hnext _ _ _ _ h3
set_option maxRecDepth 100000 in
theorem law_last {X : XT} {hd : Cond} {Q : State → Prop} {E : EvT} {Z : Nat → Prop} {A B : Nat → Nat} {b L kc kn : Nat} {xs : Nat → Int32} (C : Cx X hd code 4 RL 2048 84000) (K : Ck X E Z) (hX : va_X b L xs X.2.2.2.2.1 X.2.2.2.2.1.heap) (hbl : b < X.2.2.2.2.1.heap.size) (hbA : ¬ Z b) (hL : L ≤ 2048) (hkc : kc ≤ X.2.2.2.1.cells) (hkn : kn ≤ X.2.2.2.1.slots) {Rel : RelT} (hs : Sim_last Rel) {j : Nat} (hj : j < 512) (hjL : 4 * j + 4 ≤ L) {V V2 : Nat → Nat → Int32} {L' L2 : Nat → Int64} (hR : Rel j V L' V2 L2) (hnext : ∀ (V : Nat → Nat → Int32) (L' : Nat → Int64) (V2 : Nat → Nat → Int32) (L2 : Nat → Int64), Rel (j + 1) V L' V2 L2 → Wn X 4 E Z Q kc kn 808 [(0, .ref b), (1, .ref (A 0)), (2, .ref (B 0)), (3, .int (nI (4 * j)))] [] ([] ++ (cw E A V L' ++ mw E B V2 L2))) : Wn X 4 E Z Q kc kn 465 [(0, .ref b), (1, .ref (A 0)), (2, .ref (B 0)), (3, .int (nI (4 * j)))] [] ([] ++ (cw E A V L' ++ mw E B V2 L2)) := by
  obtain ⟨r, V1, L1, V3, L3, h1, h2, h3⟩ := hs _ V L' V2 L2 (xs (4 * j + 1)) hj hR
  refine n_aload C dL_law_465 1 rfl rfl ?_
  refine n_aload C dL_law_466 0 rfl rfl ?_
  refine l_iload C dL_law_467 3 rfl rfl ?_
  refine n_iconst C dL_law_468 ki_1 ?_
  refine l_iadd C dL_law_469 ?_
  refine l_ld C hX hbl hbA (law_add j 1 _ (by decide)) (show 4 * j + 1 < L by omega) hL dL_law_470 ?_
  refine l_callI C K cal_RL_68 ⟨rfl, rfl, (Nat.le_of_ble_eq_true rfl), (Nat.le_of_ble_eq_true rfl)⟩ (t_X4_last _ (xs (4 * j + 1)) h1) (wl := []) (wr := mw E B V2 L2) (cw_o0 E A _ _) rfl (cw_fst _ _ _ _ _ _) rfl (rest := []) rfl (Nat.le_of_ble_eq_true rfl) dL_law_471 hkc hkn ?_
  refine n_chg (w2 := cw E A V1 L1 ++ (mw E B V2 L2 ++ [])) (by rw [List.nil_append, List.append_nil]) ?_
  refine n_aload C dL_law_474 2 rfl rfl ?_
  refine n_aload C dL_law_475 0 rfl rfl ?_
  refine l_iload C dL_law_476 3 rfl rfl ?_
  refine n_iconst C dL_law_477 ki_1 ?_
  refine l_iadd C dL_law_478 ?_
  refine l_ld C hX hbl hbA (law_add j 1 _ (by decide)) (show 4 * j + 1 < L by omega) hL dL_law_479 ?_
  refine l_callI C K cal_RL_71 ⟨rfl, rfl, (Nat.le_of_ble_eq_true rfl), (Nat.le_of_ble_eq_true rfl)⟩ (t_X5_last _ (xs (4 * j + 1)) h2) (wl := cw E A V1 L1) (wr := []) (mw_o0 E B _ _) rfl (mw_fst _ _ _ _ _ _) rfl (rest := [.int r]) rfl (Nat.le_of_ble_eq_true rfl) dL_law_480 hkc hkn ?_
  refine n_chg (w2 := [] ++ (cw E A V1 L1 ++ mw E B V3 L3)) (by rw [List.nil_append, List.append_nil]) ?_
  refine l_eq C (tgt := 808) dL_law_483 rfl ?_
  exact hnext _ _ _ _ h3
set_option maxRecDepth 100000 in
theorem law_begin {X : XT} {hd : Cond} {Q : State → Prop} {E : EvT} {Z : Nat → Prop} {A B : Nat → Nat} {b L kc kn : Nat} {xs : Nat → Int32} (C : Cx X hd code 4 RL 2048 84000) (K : Ck X E Z) (hX : va_X b L xs X.2.2.2.2.1 X.2.2.2.2.1.heap) (hbl : b < X.2.2.2.2.1.heap.size) (hbA : ¬ Z b) (hL : L ≤ 2048) (hkc : kc ≤ X.2.2.2.1.cells) (hkn : kn ≤ X.2.2.2.1.slots) {Rel : RelT} (hs : Sim_begin Rel) {j : Nat} (hj : j < 512) (hjL : 4 * j + 4 ≤ L) {V V2 : Nat → Nat → Int32} {L' L2 : Nat → Int64} (hR : Rel j V L' V2 L2) (hnext : ∀ (V : Nat → Nat → Int32) (L' : Nat → Int64) (V2 : Nat → Nat → Int32) (L2 : Nat → Int64), Rel (j + 1) V L' V2 L2 → Wn X 4 E Z Q kc kn 808 [(0, .ref b), (1, .ref (A 0)), (2, .ref (B 0)), (3, .int (nI (4 * j)))] [] ([] ++ (cw E A V L' ++ mw E B V2 L2))) : Wn X 4 E Z Q kc kn 488 [(0, .ref b), (1, .ref (A 0)), (2, .ref (B 0)), (3, .int (nI (4 * j)))] [] ([] ++ (cw E A V L' ++ mw E B V2 L2)) := by
  obtain ⟨r, V1, L1, V3, L3, h1, h2, h3⟩ := hs _ V L' V2 L2 (xs (4 * j + 1)) (xs (4 * j + 2)) hj hR
  refine n_aload C dL_law_488 1 rfl rfl ?_
  refine n_aload C dL_law_489 0 rfl rfl ?_
  refine l_iload C dL_law_490 3 rfl rfl ?_
  refine n_iconst C dL_law_491 ki_1 ?_
  refine l_iadd C dL_law_492 ?_
  refine l_ld C hX hbl hbA (law_add j 1 _ (by decide)) (show 4 * j + 1 < L by omega) hL dL_law_493 ?_
  refine n_aload C dL_law_494 0 rfl rfl ?_
  refine l_iload C dL_law_495 3 rfl rfl ?_
  refine n_iconst C dL_law_496 ki_2 ?_
  refine l_iadd C dL_law_497 ?_
  refine l_ld C hX hbl hbA (law_add j 2 _ (by decide)) (show 4 * j + 2 < L by omega) hL dL_law_498 ?_
  refine l_callI C K cal_RL_72 ⟨rfl, rfl, (Nat.le_of_ble_eq_true rfl), (Nat.le_of_ble_eq_true rfl)⟩ (t_X4_begin _ (xs (4 * j + 1)) (xs (4 * j + 2)) h1) (wl := []) (wr := mw E B V2 L2) (cw_o0 E A _ _) rfl (cw_fst _ _ _ _ _ _) rfl (rest := []) rfl (Nat.le_of_ble_eq_true rfl) dL_law_499 hkc hkn ?_
  refine n_chg (w2 := cw E A V1 L1 ++ (mw E B V2 L2 ++ [])) (by rw [List.nil_append, List.append_nil]) ?_
  refine n_aload C dL_law_502 2 rfl rfl ?_
  refine n_aload C dL_law_503 0 rfl rfl ?_
  refine l_iload C dL_law_504 3 rfl rfl ?_
  refine n_iconst C dL_law_505 ki_1 ?_
  refine l_iadd C dL_law_506 ?_
  refine l_ld C hX hbl hbA (law_add j 1 _ (by decide)) (show 4 * j + 1 < L by omega) hL dL_law_507 ?_
  refine n_aload C dL_law_508 0 rfl rfl ?_
  refine l_iload C dL_law_509 3 rfl rfl ?_
  refine n_iconst C dL_law_510 ki_2 ?_
  refine l_iadd C dL_law_511 ?_
  refine l_ld C hX hbl hbA (law_add j 2 _ (by decide)) (show 4 * j + 2 < L by omega) hL dL_law_512 ?_
  refine l_callI C K cal_RL_75 ⟨rfl, rfl, (Nat.le_of_ble_eq_true rfl), (Nat.le_of_ble_eq_true rfl)⟩ (t_X5_begin _ (xs (4 * j + 1)) (xs (4 * j + 2)) h2) (wl := cw E A V1 L1) (wr := []) (mw_o0 E B _ _) rfl (mw_fst _ _ _ _ _ _) rfl (rest := [.int r]) rfl (Nat.le_of_ble_eq_true rfl) dL_law_513 hkc hkn ?_
  refine n_chg (w2 := [] ++ (cw E A V1 L1 ++ mw E B V3 L3)) (by rw [List.nil_append, List.append_nil]) ?_
  refine l_eq C (tgt := 808) dL_law_516 rfl ?_
  exact hnext _ _ _ _ h3
set_option maxRecDepth 100000 in
theorem law_stand {X : XT} {hd : Cond} {Q : State → Prop} {E : EvT} {Z : Nat → Prop} {A B : Nat → Nat} {b L kc kn : Nat} {xs : Nat → Int32} (C : Cx X hd code 4 RL 2048 84000) (K : Ck X E Z) (hX : va_X b L xs X.2.2.2.2.1 X.2.2.2.2.1.heap) (hbl : b < X.2.2.2.2.1.heap.size) (hbA : ¬ Z b) (hL : L ≤ 2048) (hkc : kc ≤ X.2.2.2.1.cells) (hkn : kn ≤ X.2.2.2.1.slots) {Rel : RelT} (hs : Sim_stand Rel) {j : Nat} (hj : j < 512) (hjL : 4 * j + 4 ≤ L) {V V2 : Nat → Nat → Int32} {L' L2 : Nat → Int64} (hR : Rel j V L' V2 L2) (hnext : ∀ (V : Nat → Nat → Int32) (L' : Nat → Int64) (V2 : Nat → Nat → Int32) (L2 : Nat → Int64), Rel (j + 1) V L' V2 L2 → Wn X 4 E Z Q kc kn 808 [(0, .ref b), (1, .ref (A 0)), (2, .ref (B 0)), (3, .int (nI (4 * j)))] [] ([] ++ (cw E A V L' ++ mw E B V2 L2))) : Wn X 4 E Z Q kc kn 521 [(0, .ref b), (1, .ref (A 0)), (2, .ref (B 0)), (3, .int (nI (4 * j)))] [] ([] ++ (cw E A V L' ++ mw E B V2 L2)) := by
  obtain ⟨r, V1, L1, V3, L3, h1, h2, h3⟩ := hs _ V L' V2 L2 (xs (4 * j + 1)) (xs (4 * j + 2)) hj hR
  refine n_aload C dL_law_521 1 rfl rfl ?_
  refine n_aload C dL_law_522 0 rfl rfl ?_
  refine l_iload C dL_law_523 3 rfl rfl ?_
  refine n_iconst C dL_law_524 ki_1 ?_
  refine l_iadd C dL_law_525 ?_
  refine l_ld C hX hbl hbA (law_add j 1 _ (by decide)) (show 4 * j + 1 < L by omega) hL dL_law_526 ?_
  refine n_aload C dL_law_527 0 rfl rfl ?_
  refine l_iload C dL_law_528 3 rfl rfl ?_
  refine n_iconst C dL_law_529 ki_2 ?_
  refine l_iadd C dL_law_530 ?_
  refine l_ld C hX hbl hbA (law_add j 2 _ (by decide)) (show 4 * j + 2 < L by omega) hL dL_law_531 ?_
  refine l_callI C K cal_RL_76 ⟨rfl, rfl, (Nat.le_of_ble_eq_true rfl), (Nat.le_of_ble_eq_true rfl)⟩ (t_X4_stand _ (xs (4 * j + 1)) (xs (4 * j + 2)) h1) (wl := []) (wr := mw E B V2 L2) (cw_o0 E A _ _) rfl (cw_fst _ _ _ _ _ _) rfl (rest := []) rfl (Nat.le_of_ble_eq_true rfl) dL_law_532 hkc hkn ?_
  refine n_chg (w2 := cw E A V1 L1 ++ (mw E B V2 L2 ++ [])) (by rw [List.nil_append, List.append_nil]) ?_
  refine n_aload C dL_law_535 2 rfl rfl ?_
  refine n_aload C dL_law_536 0 rfl rfl ?_
  refine l_iload C dL_law_537 3 rfl rfl ?_
  refine n_iconst C dL_law_538 ki_1 ?_
  refine l_iadd C dL_law_539 ?_
  refine l_ld C hX hbl hbA (law_add j 1 _ (by decide)) (show 4 * j + 1 < L by omega) hL dL_law_540 ?_
  refine n_aload C dL_law_541 0 rfl rfl ?_
  refine l_iload C dL_law_542 3 rfl rfl ?_
  refine n_iconst C dL_law_543 ki_2 ?_
  refine l_iadd C dL_law_544 ?_
  refine l_ld C hX hbl hbA (law_add j 2 _ (by decide)) (show 4 * j + 2 < L by omega) hL dL_law_545 ?_
  refine l_callI C K cal_RL_79 ⟨rfl, rfl, (Nat.le_of_ble_eq_true rfl), (Nat.le_of_ble_eq_true rfl)⟩ (t_X5_stand _ (xs (4 * j + 1)) (xs (4 * j + 2)) h2) (wl := cw E A V1 L1) (wr := []) (mw_o0 E B _ _) rfl (mw_fst _ _ _ _ _ _) rfl (rest := [.int r]) rfl (Nat.le_of_ble_eq_true rfl) dL_law_546 hkc hkn ?_
  refine n_chg (w2 := [] ++ (cw E A V1 L1 ++ mw E B V3 L3)) (by rw [List.nil_append, List.append_nil]) ?_
  refine l_eq C (tgt := 808) dL_law_549 rfl ?_
  exact hnext _ _ _ _ h3
set_option maxRecDepth 100000 in
theorem law_game {X : XT} {hd : Cond} {Q : State → Prop} {E : EvT} {Z : Nat → Prop} {A B : Nat → Nat} {b L kc kn : Nat} {xs : Nat → Int32} (C : Cx X hd code 4 RL 2048 84000) (K : Ck X E Z) (hX : va_X b L xs X.2.2.2.2.1 X.2.2.2.2.1.heap) (hbl : b < X.2.2.2.2.1.heap.size) (hbA : ¬ Z b) (hL : L ≤ 2048) (hkc : kc ≤ X.2.2.2.1.cells) (hkn : kn ≤ X.2.2.2.1.slots) {Rel : RelT} (hs : Sim_game Rel) {j : Nat} (hj : j < 512) (hjL : 4 * j + 4 ≤ L) {V V2 : Nat → Nat → Int32} {L' L2 : Nat → Int64} (hR : Rel j V L' V2 L2) (hnext : ∀ (V : Nat → Nat → Int32) (L' : Nat → Int64) (V2 : Nat → Nat → Int32) (L2 : Nat → Int64), Rel (j + 1) V L' V2 L2 → Wn X 4 E Z Q kc kn 808 [(0, .ref b), (1, .ref (A 0)), (2, .ref (B 0)), (3, .int (nI (4 * j)))] [] ([] ++ (cw E A V L' ++ mw E B V2 L2))) : Wn X 4 E Z Q kc kn 554 [(0, .ref b), (1, .ref (A 0)), (2, .ref (B 0)), (3, .int (nI (4 * j)))] [] ([] ++ (cw E A V L' ++ mw E B V2 L2)) := by
  obtain ⟨r, V1, L1, V3, L3, h1, h2, h3⟩ := hs _ V L' V2 L2 (xs (4 * j + 1)) (xs (4 * j + 2)) (xs (4 * j + 3)) hj hR
  refine n_aload C dL_law_554 1 rfl rfl ?_
  refine n_aload C dL_law_555 0 rfl rfl ?_
  refine l_iload C dL_law_556 3 rfl rfl ?_
  refine n_iconst C dL_law_557 ki_1 ?_
  refine l_iadd C dL_law_558 ?_
  refine l_ld C hX hbl hbA (law_add j 1 _ (by decide)) (show 4 * j + 1 < L by omega) hL dL_law_559 ?_
  refine n_aload C dL_law_560 0 rfl rfl ?_
  refine l_iload C dL_law_561 3 rfl rfl ?_
  refine n_iconst C dL_law_562 ki_2 ?_
  refine l_iadd C dL_law_563 ?_
  refine l_ld C hX hbl hbA (law_add j 2 _ (by decide)) (show 4 * j + 2 < L by omega) hL dL_law_564 ?_
  refine n_aload C dL_law_565 0 rfl rfl ?_
  refine l_iload C dL_law_566 3 rfl rfl ?_
  refine n_iconst C dL_law_567 ki_3 ?_
  refine l_iadd C dL_law_568 ?_
  refine l_ld C hX hbl hbA (law_add j 3 _ (by decide)) (show 4 * j + 3 < L by omega) hL dL_law_569 ?_
  refine l_callI C K cal_RL_80 ⟨rfl, rfl, (Nat.le_of_ble_eq_true rfl), (Nat.le_of_ble_eq_true rfl)⟩ (t_X4_game _ (xs (4 * j + 1)) (xs (4 * j + 2)) (xs (4 * j + 3)) h1) (wl := []) (wr := mw E B V2 L2) (cw_o0 E A _ _) rfl (cw_fst _ _ _ _ _ _) rfl (rest := []) rfl (Nat.le_of_ble_eq_true rfl) dL_law_570 hkc hkn ?_
  refine n_chg (w2 := cw E A V1 L1 ++ (mw E B V2 L2 ++ [])) (by rw [List.nil_append, List.append_nil]) ?_
  refine n_aload C dL_law_573 2 rfl rfl ?_
  refine n_aload C dL_law_574 0 rfl rfl ?_
  refine l_iload C dL_law_575 3 rfl rfl ?_
  refine n_iconst C dL_law_576 ki_1 ?_
  refine l_iadd C dL_law_577 ?_
  refine l_ld C hX hbl hbA (law_add j 1 _ (by decide)) (show 4 * j + 1 < L by omega) hL dL_law_578 ?_
  refine n_aload C dL_law_579 0 rfl rfl ?_
  refine l_iload C dL_law_580 3 rfl rfl ?_
  refine n_iconst C dL_law_581 ki_2 ?_
  refine l_iadd C dL_law_582 ?_
  refine l_ld C hX hbl hbA (law_add j 2 _ (by decide)) (show 4 * j + 2 < L by omega) hL dL_law_583 ?_
  refine n_aload C dL_law_584 0 rfl rfl ?_
  refine l_iload C dL_law_585 3 rfl rfl ?_
  refine n_iconst C dL_law_586 ki_3 ?_
  refine l_iadd C dL_law_587 ?_
  refine l_ld C hX hbl hbA (law_add j 3 _ (by decide)) (show 4 * j + 3 < L by omega) hL dL_law_588 ?_
  refine l_callI C K cal_RL_84 ⟨rfl, rfl, (Nat.le_of_ble_eq_true rfl), (Nat.le_of_ble_eq_true rfl)⟩ (t_X5_game _ (xs (4 * j + 1)) (xs (4 * j + 2)) (xs (4 * j + 3)) h2) (wl := cw E A V1 L1) (wr := []) (mw_o0 E B _ _) rfl (mw_fst _ _ _ _ _ _) rfl (rest := [.int r]) rfl (Nat.le_of_ble_eq_true rfl) dL_law_589 hkc hkn ?_
  refine n_chg (w2 := [] ++ (cw E A V1 L1 ++ mw E B V3 L3)) (by rw [List.nil_append, List.append_nil]) ?_
  refine l_eq C (tgt := 808) dL_law_592 rfl ?_
  exact hnext _ _ _ _ h3
set_option maxRecDepth 100000 in
theorem law_likely {X : XT} {hd : Cond} {Q : State → Prop} {E : EvT} {Z : Nat → Prop} {A B : Nat → Nat} {b L kc kn : Nat} {xs : Nat → Int32} (C : Cx X hd code 4 RL 2048 84000) (K : Ck X E Z) (hX : va_X b L xs X.2.2.2.2.1 X.2.2.2.2.1.heap) (hbl : b < X.2.2.2.2.1.heap.size) (hbA : ¬ Z b) (hL : L ≤ 2048) (hkc : kc ≤ X.2.2.2.1.cells) (hkn : kn ≤ X.2.2.2.1.slots) {Rel : RelT} (hs : Sim_likely Rel) {j : Nat} (hj : j < 512) (hjL : 4 * j + 4 ≤ L) {V V2 : Nat → Nat → Int32} {L' L2 : Nat → Int64} (hR : Rel j V L' V2 L2) (hnext : ∀ (V : Nat → Nat → Int32) (L' : Nat → Int64) (V2 : Nat → Nat → Int32) (L2 : Nat → Int64), Rel (j + 1) V L' V2 L2 → Wn X 4 E Z Q kc kn 808 [(0, .ref b), (1, .ref (A 0)), (2, .ref (B 0)), (3, .int (nI (4 * j)))] [] ([] ++ (cw E A V L' ++ mw E B V2 L2))) : Wn X 4 E Z Q kc kn 597 [(0, .ref b), (1, .ref (A 0)), (2, .ref (B 0)), (3, .int (nI (4 * j)))] [] ([] ++ (cw E A V L' ++ mw E B V2 L2)) := by
  obtain ⟨r, V1, L1, V3, L3, h1, h2, h3⟩ := hs _ V L' V2 L2 (xs (4 * j + 1)) (xs (4 * j + 2)) hj hR
  refine n_aload C dL_law_597 1 rfl rfl ?_
  refine n_aload C dL_law_598 0 rfl rfl ?_
  refine l_iload C dL_law_599 3 rfl rfl ?_
  refine n_iconst C dL_law_600 ki_1 ?_
  refine l_iadd C dL_law_601 ?_
  refine l_ld C hX hbl hbA (law_add j 1 _ (by decide)) (show 4 * j + 1 < L by omega) hL dL_law_602 ?_
  refine n_aload C dL_law_603 0 rfl rfl ?_
  refine l_iload C dL_law_604 3 rfl rfl ?_
  refine n_iconst C dL_law_605 ki_2 ?_
  refine l_iadd C dL_law_606 ?_
  refine l_ld C hX hbl hbA (law_add j 2 _ (by decide)) (show 4 * j + 2 < L by omega) hL dL_law_607 ?_
  refine l_callI C K cal_RL_85 ⟨rfl, rfl, (Nat.le_of_ble_eq_true rfl), (Nat.le_of_ble_eq_true rfl)⟩ (t_X4_likely _ (xs (4 * j + 1)) (xs (4 * j + 2)) h1) (wl := []) (wr := mw E B V2 L2) (cw_o0 E A _ _) rfl (cw_fst _ _ _ _ _ _) rfl (rest := []) rfl (Nat.le_of_ble_eq_true rfl) dL_law_608 hkc hkn ?_
  refine n_chg (w2 := cw E A V1 L1 ++ (mw E B V2 L2 ++ [])) (by rw [List.nil_append, List.append_nil]) ?_
  refine n_aload C dL_law_611 2 rfl rfl ?_
  refine n_aload C dL_law_612 0 rfl rfl ?_
  refine l_iload C dL_law_613 3 rfl rfl ?_
  refine n_iconst C dL_law_614 ki_1 ?_
  refine l_iadd C dL_law_615 ?_
  refine l_ld C hX hbl hbA (law_add j 1 _ (by decide)) (show 4 * j + 1 < L by omega) hL dL_law_616 ?_
  refine n_aload C dL_law_617 0 rfl rfl ?_
  refine l_iload C dL_law_618 3 rfl rfl ?_
  refine n_iconst C dL_law_619 ki_2 ?_
  refine l_iadd C dL_law_620 ?_
  refine l_ld C hX hbl hbA (law_add j 2 _ (by decide)) (show 4 * j + 2 < L by omega) hL dL_law_621 ?_
  refine l_callI C K cal_RL_88 ⟨rfl, rfl, (Nat.le_of_ble_eq_true rfl), (Nat.le_of_ble_eq_true rfl)⟩ (t_X5_likely _ (xs (4 * j + 1)) (xs (4 * j + 2)) h2) (wl := cw E A V1 L1) (wr := []) (mw_o0 E B _ _) rfl (mw_fst _ _ _ _ _ _) rfl (rest := [.int r]) rfl (Nat.le_of_ble_eq_true rfl) dL_law_622 hkc hkn ?_
  refine n_chg (w2 := [] ++ (cw E A V1 L1 ++ mw E B V3 L3)) (by rw [List.nil_append, List.append_nil]) ?_
  refine l_eq C (tgt := 808) dL_law_625 rfl ?_
  exact hnext _ _ _ _ h3
set_option maxRecDepth 100000 in
theorem law_see {X : XT} {hd : Cond} {Q : State → Prop} {E : EvT} {Z : Nat → Prop} {A B : Nat → Nat} {b L kc kn : Nat} {xs : Nat → Int32} (C : Cx X hd code 4 RL 2048 84000) (K : Ck X E Z) (hX : va_X b L xs X.2.2.2.2.1 X.2.2.2.2.1.heap) (hbl : b < X.2.2.2.2.1.heap.size) (hbA : ¬ Z b) (hL : L ≤ 2048) (hkc : kc ≤ X.2.2.2.1.cells) (hkn : kn ≤ X.2.2.2.1.slots) {Rel : RelT} (hs : Sim_see Rel) {j : Nat} (hj : j < 512) (hjL : 4 * j + 4 ≤ L) {V V2 : Nat → Nat → Int32} {L' L2 : Nat → Int64} (hR : Rel j V L' V2 L2) (hnext : ∀ (V : Nat → Nat → Int32) (L' : Nat → Int64) (V2 : Nat → Nat → Int32) (L2 : Nat → Int64), Rel (j + 1) V L' V2 L2 → Wn X 4 E Z Q kc kn 808 [(0, .ref b), (1, .ref (A 0)), (2, .ref (B 0)), (3, .int (nI (4 * j)))] [] ([] ++ (cw E A V L' ++ mw E B V2 L2))) : Wn X 4 E Z Q kc kn 630 [(0, .ref b), (1, .ref (A 0)), (2, .ref (B 0)), (3, .int (nI (4 * j)))] [] ([] ++ (cw E A V L' ++ mw E B V2 L2)) := by
  obtain ⟨r, V1, L1, V3, L3, h1, h2, h3⟩ := hs _ V L' V2 L2 (xs (4 * j + 1)) (xs (4 * j + 2)) hj hR
  refine n_aload C dL_law_630 1 rfl rfl ?_
  refine n_aload C dL_law_631 0 rfl rfl ?_
  refine l_iload C dL_law_632 3 rfl rfl ?_
  refine n_iconst C dL_law_633 ki_1 ?_
  refine l_iadd C dL_law_634 ?_
  refine l_ld C hX hbl hbA (law_add j 1 _ (by decide)) (show 4 * j + 1 < L by omega) hL dL_law_635 ?_
  refine n_aload C dL_law_636 0 rfl rfl ?_
  refine l_iload C dL_law_637 3 rfl rfl ?_
  refine n_iconst C dL_law_638 ki_2 ?_
  refine l_iadd C dL_law_639 ?_
  refine l_ld C hX hbl hbA (law_add j 2 _ (by decide)) (show 4 * j + 2 < L by omega) hL dL_law_640 ?_
  refine l_callI C K cal_RL_89 ⟨rfl, rfl, (Nat.le_of_ble_eq_true rfl), (Nat.le_of_ble_eq_true rfl)⟩ (t_X4_see _ (xs (4 * j + 1)) (xs (4 * j + 2)) h1) (wl := []) (wr := mw E B V2 L2) (cw_o0 E A _ _) rfl (cw_fst _ _ _ _ _ _) rfl (rest := []) rfl (Nat.le_of_ble_eq_true rfl) dL_law_641 hkc hkn ?_
  refine n_chg (w2 := cw E A V1 L1 ++ (mw E B V2 L2 ++ [])) (by rw [List.nil_append, List.append_nil]) ?_
  refine n_aload C dL_law_644 2 rfl rfl ?_
  refine n_aload C dL_law_645 0 rfl rfl ?_
  refine l_iload C dL_law_646 3 rfl rfl ?_
  refine n_iconst C dL_law_647 ki_1 ?_
  refine l_iadd C dL_law_648 ?_
  refine l_ld C hX hbl hbA (law_add j 1 _ (by decide)) (show 4 * j + 1 < L by omega) hL dL_law_649 ?_
  refine n_aload C dL_law_650 0 rfl rfl ?_
  refine l_iload C dL_law_651 3 rfl rfl ?_
  refine n_iconst C dL_law_652 ki_2 ?_
  refine l_iadd C dL_law_653 ?_
  refine l_ld C hX hbl hbA (law_add j 2 _ (by decide)) (show 4 * j + 2 < L by omega) hL dL_law_654 ?_
  refine l_callI C K cal_RL_92 ⟨rfl, rfl, (Nat.le_of_ble_eq_true rfl), (Nat.le_of_ble_eq_true rfl)⟩ (t_X5_see _ (xs (4 * j + 1)) (xs (4 * j + 2)) h2) (wl := cw E A V1 L1) (wr := []) (mw_o0 E B _ _) rfl (mw_fst _ _ _ _ _ _) rfl (rest := [.int r]) rfl (Nat.le_of_ble_eq_true rfl) dL_law_655 hkc hkn ?_
  refine n_chg (w2 := [] ++ (cw E A V1 L1 ++ mw E B V3 L3)) (by rw [List.nil_append, List.append_nil]) ?_
  refine l_eq C (tgt := 808) dL_law_658 rfl ?_
  exact hnext _ _ _ _ h3
set_option maxRecDepth 100000 in
theorem law_forget {X : XT} {hd : Cond} {Q : State → Prop} {E : EvT} {Z : Nat → Prop} {A B : Nat → Nat} {b L kc kn : Nat} {xs : Nat → Int32} (C : Cx X hd code 4 RL 2048 84000) (K : Ck X E Z) (hX : va_X b L xs X.2.2.2.2.1 X.2.2.2.2.1.heap) (hbl : b < X.2.2.2.2.1.heap.size) (hbA : ¬ Z b) (hL : L ≤ 2048) (hkc : kc ≤ X.2.2.2.1.cells) (hkn : kn ≤ X.2.2.2.1.slots) {Rel : RelT} (hs : Sim_forget Rel) {j : Nat} (hj : j < 512) (hjL : 4 * j + 4 ≤ L) {V V2 : Nat → Nat → Int32} {L' L2 : Nat → Int64} (hR : Rel j V L' V2 L2) (hnext : ∀ (V : Nat → Nat → Int32) (L' : Nat → Int64) (V2 : Nat → Nat → Int32) (L2 : Nat → Int64), Rel (j + 1) V L' V2 L2 → Wn X 4 E Z Q kc kn 808 [(0, .ref b), (1, .ref (A 0)), (2, .ref (B 0)), (3, .int (nI (4 * j)))] [] ([] ++ (cw E A V L' ++ mw E B V2 L2))) : Wn X 4 E Z Q kc kn 663 [(0, .ref b), (1, .ref (A 0)), (2, .ref (B 0)), (3, .int (nI (4 * j)))] [] ([] ++ (cw E A V L' ++ mw E B V2 L2)) := by
  obtain ⟨r, V1, L1, V3, L3, h1, h2, h3⟩ := hs _ V L' V2 L2  hj hR
  refine n_aload C dL_law_663 1 rfl rfl ?_
  refine l_callI C K cal_RL_93 ⟨rfl, rfl, (Nat.le_of_ble_eq_true rfl), (Nat.le_of_ble_eq_true rfl)⟩ (t_X4_forget _  h1) (wl := []) (wr := mw E B V2 L2) (cw_o0 E A _ _) rfl (cw_fst _ _ _ _ _ _) rfl (rest := []) rfl (Nat.le_of_ble_eq_true rfl) dL_law_664 hkc hkn ?_
  refine n_chg (w2 := cw E A V1 L1 ++ (mw E B V2 L2 ++ [])) (by rw [List.nil_append, List.append_nil]) ?_
  refine n_aload C dL_law_667 2 rfl rfl ?_
  refine l_callI C K cal_RL_96 ⟨rfl, rfl, (Nat.le_of_ble_eq_true rfl), (Nat.le_of_ble_eq_true rfl)⟩ (t_X5_forget _  h2) (wl := cw E A V1 L1) (wr := []) (mw_o0 E B _ _) rfl (mw_fst _ _ _ _ _ _) rfl (rest := [.int r]) rfl (Nat.le_of_ble_eq_true rfl) dL_law_668 hkc hkn ?_
  refine n_chg (w2 := [] ++ (cw E A V1 L1 ++ mw E B V3 L3)) (by rw [List.nil_append, List.append_nil]) ?_
  refine l_eq C (tgt := 808) dL_law_671 rfl ?_
  exact hnext _ _ _ _ h3
set_option maxRecDepth 100000 in
theorem law_lengths {X : XT} {hd : Cond} {Q : State → Prop} {E : EvT} {Z : Nat → Prop} {A B : Nat → Nat} {b L kc kn : Nat} {xs : Nat → Int32} (C : Cx X hd code 4 RL 2048 84000) (K : Ck X E Z) (hX : va_X b L xs X.2.2.2.2.1 X.2.2.2.2.1.heap) (hbl : b < X.2.2.2.2.1.heap.size) (hbA : ¬ Z b) (hL : L ≤ 2048) (hkc : kc ≤ X.2.2.2.1.cells) (hkn : kn ≤ X.2.2.2.1.slots) {Rel : RelT} (hs : Sim_lengths Rel) {j : Nat} (hj : j < 512) (hjL : 4 * j + 4 ≤ L) {V V2 : Nat → Nat → Int32} {L' L2 : Nat → Int64} (hR : Rel j V L' V2 L2) (hnext : ∀ (V : Nat → Nat → Int32) (L' : Nat → Int64) (V2 : Nat → Nat → Int32) (L2 : Nat → Int64), Rel (j + 1) V L' V2 L2 → Wn X 4 E Z Q kc kn 808 [(0, .ref b), (1, .ref (A 0)), (2, .ref (B 0)), (3, .int (nI (4 * j)))] [] ([] ++ (cw E A V L' ++ mw E B V2 L2))) : Wn X 4 E Z Q kc kn 676 [(0, .ref b), (1, .ref (A 0)), (2, .ref (B 0)), (3, .int (nI (4 * j)))] [] ([] ++ (cw E A V L' ++ mw E B V2 L2)) := by
  obtain ⟨r, V1, L1, V3, L3, h1, h2, h3⟩ := hs _ V L' V2 L2  hj hR
  refine n_aload C dL_law_676 1 rfl rfl ?_
  refine l_callI C K cal_RL_97 ⟨rfl, rfl, (Nat.le_of_ble_eq_true rfl), (Nat.le_of_ble_eq_true rfl)⟩ (t_X4_lengths _  h1) (wl := []) (wr := mw E B V2 L2) (cw_o0 E A _ _) rfl (cw_fst _ _ _ _ _ _) rfl (rest := []) rfl (Nat.le_of_ble_eq_true rfl) dL_law_677 hkc hkn ?_
  refine n_chg (w2 := cw E A V1 L1 ++ (mw E B V2 L2 ++ [])) (by rw [List.nil_append, List.append_nil]) ?_
  refine n_aload C dL_law_680 2 rfl rfl ?_
  refine l_callI C K cal_RL_100 ⟨rfl, rfl, (Nat.le_of_ble_eq_true rfl), (Nat.le_of_ble_eq_true rfl)⟩ (t_X5_lengths _  h2) (wl := cw E A V1 L1) (wr := []) (mw_o0 E B _ _) rfl (mw_fst _ _ _ _ _ _) rfl (rest := [.int r]) rfl (Nat.le_of_ble_eq_true rfl) dL_law_681 hkc hkn ?_
  refine n_chg (w2 := [] ++ (cw E A V1 L1 ++ mw E B V3 L3)) (by rw [List.nil_append, List.append_nil]) ?_
  refine l_eq C (tgt := 808) dL_law_684 rfl ?_
  exact hnext _ _ _ _ h3
set_option maxRecDepth 100000 in
theorem law_from {X : XT} {hd : Cond} {Q : State → Prop} {E : EvT} {Z : Nat → Prop} {A B : Nat → Nat} {b L kc kn : Nat} {xs : Nat → Int32} (C : Cx X hd code 4 RL 2048 84000) (K : Ck X E Z) (hX : va_X b L xs X.2.2.2.2.1 X.2.2.2.2.1.heap) (hbl : b < X.2.2.2.2.1.heap.size) (hbA : ¬ Z b) (hL : L ≤ 2048) (hkc : kc ≤ X.2.2.2.1.cells) (hkn : kn ≤ X.2.2.2.1.slots) {Rel : RelT} (hs : Sim_from Rel) {j : Nat} (hj : j < 512) (hjL : 4 * j + 4 ≤ L) {V V2 : Nat → Nat → Int32} {L' L2 : Nat → Int64} (hR : Rel j V L' V2 L2) (hnext : ∀ (V : Nat → Nat → Int32) (L' : Nat → Int64) (V2 : Nat → Nat → Int32) (L2 : Nat → Int64), Rel (j + 1) V L' V2 L2 → Wn X 4 E Z Q kc kn 808 [(0, .ref b), (1, .ref (A 0)), (2, .ref (B 0)), (3, .int (nI (4 * j)))] [] ([] ++ (cw E A V L' ++ mw E B V2 L2))) : Wn X 4 E Z Q kc kn 689 [(0, .ref b), (1, .ref (A 0)), (2, .ref (B 0)), (3, .int (nI (4 * j)))] [] ([] ++ (cw E A V L' ++ mw E B V2 L2)) := by
  obtain ⟨r, V1, L1, V3, L3, h1, h2, h3⟩ := hs _ V L' V2 L2  hj hR
  refine n_aload C dL_law_689 1 rfl rfl ?_
  refine l_callI C K cal_RL_101 ⟨rfl, rfl, (Nat.le_of_ble_eq_true rfl), (Nat.le_of_ble_eq_true rfl)⟩ (t_X4_from _  h1) (wl := []) (wr := mw E B V2 L2) (cw_o0 E A _ _) rfl (cw_fst _ _ _ _ _ _) rfl (rest := []) rfl (Nat.le_of_ble_eq_true rfl) dL_law_690 hkc hkn ?_
  refine n_chg (w2 := cw E A V1 L1 ++ (mw E B V2 L2 ++ [])) (by rw [List.nil_append, List.append_nil]) ?_
  refine n_aload C dL_law_693 2 rfl rfl ?_
  refine l_callI C K cal_RL_104 ⟨rfl, rfl, (Nat.le_of_ble_eq_true rfl), (Nat.le_of_ble_eq_true rfl)⟩ (t_X5_from _  h2) (wl := cw E A V1 L1) (wr := []) (mw_o0 E B _ _) rfl (mw_fst _ _ _ _ _ _) rfl (rest := [.int r]) rfl (Nat.le_of_ble_eq_true rfl) dL_law_694 hkc hkn ?_
  refine n_chg (w2 := [] ++ (cw E A V1 L1 ++ mw E B V3 L3)) (by rw [List.nil_append, List.append_nil]) ?_
  refine l_eq C (tgt := 808) dL_law_697 rfl ?_
  exact hnext _ _ _ _ h3
set_option maxRecDepth 100000 in
theorem law_rounds {X : XT} {hd : Cond} {Q : State → Prop} {E : EvT} {Z : Nat → Prop} {A B : Nat → Nat} {b L kc kn : Nat} {xs : Nat → Int32} (C : Cx X hd code 4 RL 2048 84000) (K : Ck X E Z) (hX : va_X b L xs X.2.2.2.2.1 X.2.2.2.2.1.heap) (hbl : b < X.2.2.2.2.1.heap.size) (hbA : ¬ Z b) (hL : L ≤ 2048) (hkc : kc ≤ X.2.2.2.1.cells) (hkn : kn ≤ X.2.2.2.1.slots) {Rel : RelT} (hs : Sim_rounds Rel) {j : Nat} (hj : j < 512) (hjL : 4 * j + 4 ≤ L) {V V2 : Nat → Nat → Int32} {L' L2 : Nat → Int64} (hR : Rel j V L' V2 L2) (hnext : ∀ (V : Nat → Nat → Int32) (L' : Nat → Int64) (V2 : Nat → Nat → Int32) (L2 : Nat → Int64), Rel (j + 1) V L' V2 L2 → Wn X 4 E Z Q kc kn 808 [(0, .ref b), (1, .ref (A 0)), (2, .ref (B 0)), (3, .int (nI (4 * j)))] [] ([] ++ (cw E A V L' ++ mw E B V2 L2))) : Wn X 4 E Z Q kc kn 702 [(0, .ref b), (1, .ref (A 0)), (2, .ref (B 0)), (3, .int (nI (4 * j)))] [] ([] ++ (cw E A V L' ++ mw E B V2 L2)) := by
  obtain ⟨r, V1, L1, V3, L3, h1, h2, h3⟩ := hs _ V L' V2 L2 (xs (4 * j + 1)) (xs (4 * j + 2)) (xs (4 * j + 3)) hj hR
  refine n_aload C dL_law_702 1 rfl rfl ?_
  refine n_aload C dL_law_703 0 rfl rfl ?_
  refine l_iload C dL_law_704 3 rfl rfl ?_
  refine n_iconst C dL_law_705 ki_1 ?_
  refine l_iadd C dL_law_706 ?_
  refine l_ld C hX hbl hbA (law_add j 1 _ (by decide)) (show 4 * j + 1 < L by omega) hL dL_law_707 ?_
  refine n_aload C dL_law_708 0 rfl rfl ?_
  refine l_iload C dL_law_709 3 rfl rfl ?_
  refine n_iconst C dL_law_710 ki_2 ?_
  refine l_iadd C dL_law_711 ?_
  refine l_ld C hX hbl hbA (law_add j 2 _ (by decide)) (show 4 * j + 2 < L by omega) hL dL_law_712 ?_
  refine n_aload C dL_law_713 0 rfl rfl ?_
  refine l_iload C dL_law_714 3 rfl rfl ?_
  refine n_iconst C dL_law_715 ki_3 ?_
  refine l_iadd C dL_law_716 ?_
  refine l_ld C hX hbl hbA (law_add j 3 _ (by decide)) (show 4 * j + 3 < L by omega) hL dL_law_717 ?_
  refine l_callI C K cal_RL_105 ⟨rfl, rfl, (Nat.le_of_ble_eq_true rfl), (Nat.le_of_ble_eq_true rfl)⟩ (t_X4_rounds _ (xs (4 * j + 1)) (xs (4 * j + 2)) (xs (4 * j + 3)) h1) (wl := []) (wr := mw E B V2 L2) (cw_o0 E A _ _) rfl (cw_fst _ _ _ _ _ _) rfl (rest := []) rfl (Nat.le_of_ble_eq_true rfl) dL_law_718 hkc hkn ?_
  refine n_chg (w2 := cw E A V1 L1 ++ (mw E B V2 L2 ++ [])) (by rw [List.nil_append, List.append_nil]) ?_
  refine n_aload C dL_law_721 2 rfl rfl ?_
  refine n_aload C dL_law_722 0 rfl rfl ?_
  refine l_iload C dL_law_723 3 rfl rfl ?_
  refine n_iconst C dL_law_724 ki_1 ?_
  refine l_iadd C dL_law_725 ?_
  refine l_ld C hX hbl hbA (law_add j 1 _ (by decide)) (show 4 * j + 1 < L by omega) hL dL_law_726 ?_
  refine n_aload C dL_law_727 0 rfl rfl ?_
  refine l_iload C dL_law_728 3 rfl rfl ?_
  refine n_iconst C dL_law_729 ki_2 ?_
  refine l_iadd C dL_law_730 ?_
  refine l_ld C hX hbl hbA (law_add j 2 _ (by decide)) (show 4 * j + 2 < L by omega) hL dL_law_731 ?_
  refine n_aload C dL_law_732 0 rfl rfl ?_
  refine l_iload C dL_law_733 3 rfl rfl ?_
  refine n_iconst C dL_law_734 ki_3 ?_
  refine l_iadd C dL_law_735 ?_
  refine l_ld C hX hbl hbA (law_add j 3 _ (by decide)) (show 4 * j + 3 < L by omega) hL dL_law_736 ?_
  refine l_callI C K cal_RL_108 ⟨rfl, rfl, (Nat.le_of_ble_eq_true rfl), (Nat.le_of_ble_eq_true rfl)⟩ (t_X5_rounds _ (xs (4 * j + 1)) (xs (4 * j + 2)) (xs (4 * j + 3)) h2) (wl := cw E A V1 L1) (wr := []) (mw_o0 E B _ _) rfl (mw_fst _ _ _ _ _ _) rfl (rest := [.int r]) rfl (Nat.le_of_ble_eq_true rfl) dL_law_737 hkc hkn ?_
  refine n_chg (w2 := [] ++ (cw E A V1 L1 ++ mw E B V3 L3)) (by rw [List.nil_append, List.append_nil]) ?_
  refine l_eq C (tgt := 808) dL_law_740 rfl ?_
  exact hnext _ _ _ _ h3
set_option maxRecDepth 100000 in
theorem law_image {X : XT} {hd : Cond} {Q : State → Prop} {E : EvT} {Z : Nat → Prop} {A B : Nat → Nat} {b L kc kn : Nat} {xs : Nat → Int32} (C : Cx X hd code 4 RL 2048 84000) (K : Ck X E Z) (hX : va_X b L xs X.2.2.2.2.1 X.2.2.2.2.1.heap) (hbl : b < X.2.2.2.2.1.heap.size) (hbA : ¬ Z b) (hL : L ≤ 2048) (hkc : kc ≤ X.2.2.2.1.cells) (hkn : kn ≤ X.2.2.2.1.slots) {Rel : RelT} (hs : Sim_image Rel) {j : Nat} (hj : j < 512) (hjL : 4 * j + 4 ≤ L) {V V2 : Nat → Nat → Int32} {L' L2 : Nat → Int64} (hR : Rel j V L' V2 L2) (hnext : ∀ (V : Nat → Nat → Int32) (L' : Nat → Int64) (V2 : Nat → Nat → Int32) (L2 : Nat → Int64), Rel (j + 1) V L' V2 L2 → Wn X 4 E Z Q kc kn 808 [(0, .ref b), (1, .ref (A 0)), (2, .ref (B 0)), (3, .int (nI (4 * j)))] [] ([] ++ (cw E A V L' ++ mw E B V2 L2))) : Wn X 4 E Z Q kc kn 745 [(0, .ref b), (1, .ref (A 0)), (2, .ref (B 0)), (3, .int (nI (4 * j)))] [] ([] ++ (cw E A V L' ++ mw E B V2 L2)) := by
  obtain ⟨r, V1, L1, V3, L3, h1, h2, h3⟩ := hs _ V L' V2 L2  hj hR
  refine n_aload C dL_law_745 1 rfl rfl ?_
  refine l_callI C K cal_RL_109 ⟨rfl, rfl, (Nat.le_of_ble_eq_true rfl), (Nat.le_of_ble_eq_true rfl)⟩ (t_X4_image _  h1) (wl := []) (wr := mw E B V2 L2) (cw_o0 E A _ _) rfl (cw_fst _ _ _ _ _ _) rfl (rest := []) rfl (Nat.le_of_ble_eq_true rfl) dL_law_746 hkc hkn ?_
  refine n_chg (w2 := cw E A V1 L1 ++ (mw E B V2 L2 ++ [])) (by rw [List.nil_append, List.append_nil]) ?_
  refine n_aload C dL_law_749 2 rfl rfl ?_
  refine l_callI C K cal_RL_112 ⟨rfl, rfl, (Nat.le_of_ble_eq_true rfl), (Nat.le_of_ble_eq_true rfl)⟩ (t_X5_image _  h2) (wl := cw E A V1 L1) (wr := []) (mw_o0 E B _ _) rfl (mw_fst _ _ _ _ _ _) rfl (rest := [.int r]) rfl (Nat.le_of_ble_eq_true rfl) dL_law_750 hkc hkn ?_
  refine n_chg (w2 := [] ++ (cw E A V1 L1 ++ mw E B V3 L3)) (by rw [List.nil_append, List.append_nil]) ?_
  refine l_eq C (tgt := 808) dL_law_753 rfl ?_
  exact hnext _ _ _ _ h3
set_option maxRecDepth 100000 in
theorem law_restore {X : XT} {hd : Cond} {Q : State → Prop} {E : EvT} {Z : Nat → Prop} {A B : Nat → Nat} {b L kc kn : Nat} {xs : Nat → Int32} (C : Cx X hd code 4 RL 2048 84000) (K : Ck X E Z) (hX : va_X b L xs X.2.2.2.2.1 X.2.2.2.2.1.heap) (hbl : b < X.2.2.2.2.1.heap.size) (hbA : ¬ Z b) (hL : L ≤ 2048) (hkc : kc ≤ X.2.2.2.1.cells) (hkn : kn ≤ X.2.2.2.1.slots) {Rel : RelT} (hs : Sim_restore Rel) {j : Nat} (hj : j < 512) (hjL : 4 * j + 4 ≤ L) {V V2 : Nat → Nat → Int32} {L' L2 : Nat → Int64} (hR : Rel j V L' V2 L2) (hnext : ∀ (V : Nat → Nat → Int32) (L' : Nat → Int64) (V2 : Nat → Nat → Int32) (L2 : Nat → Int64), Rel (j + 1) V L' V2 L2 → Wn X 4 E Z Q kc kn 808 [(0, .ref b), (1, .ref (A 0)), (2, .ref (B 0)), (3, .int (nI (4 * j)))] [] ([] ++ (cw E A V L' ++ mw E B V2 L2))) : Wn X 4 E Z Q kc kn 758 [(0, .ref b), (1, .ref (A 0)), (2, .ref (B 0)), (3, .int (nI (4 * j)))] [] ([] ++ (cw E A V L' ++ mw E B V2 L2)) := by
  obtain ⟨r, V1, L1, V3, L3, h1, h2, h3⟩ := hs _ V L' V2 L2  hj hR
  refine n_aload C dL_law_758 1 rfl rfl ?_
  refine l_callI C K cal_RL_113 ⟨rfl, rfl, (Nat.le_of_ble_eq_true rfl), (Nat.le_of_ble_eq_true rfl)⟩ (t_X4_restore _  h1) (wl := []) (wr := mw E B V2 L2) (cw_o0 E A _ _) rfl (cw_fst _ _ _ _ _ _) rfl (rest := []) rfl (Nat.le_of_ble_eq_true rfl) dL_law_759 hkc hkn ?_
  refine n_chg (w2 := cw E A V1 L1 ++ (mw E B V2 L2 ++ [])) (by rw [List.nil_append, List.append_nil]) ?_
  refine n_aload C dL_law_762 2 rfl rfl ?_
  refine l_callI C K cal_RL_116 ⟨rfl, rfl, (Nat.le_of_ble_eq_true rfl), (Nat.le_of_ble_eq_true rfl)⟩ (t_X5_restore _  h2) (wl := cw E A V1 L1) (wr := []) (mw_o0 E B _ _) rfl (mw_fst _ _ _ _ _ _) rfl (rest := [.int r]) rfl (Nat.le_of_ble_eq_true rfl) dL_law_763 hkc hkn ?_
  refine n_chg (w2 := [] ++ (cw E A V1 L1 ++ mw E B V3 L3)) (by rw [List.nil_append, List.append_nil]) ?_
  refine l_eq C (tgt := 808) dL_law_766 rfl ?_
  exact hnext _ _ _ _ h3
set_option maxRecDepth 100000 in
theorem law_count {X : XT} {hd : Cond} {Q : State → Prop} {E : EvT} {Z : Nat → Prop} {A B : Nat → Nat} {b L kc kn : Nat} {xs : Nat → Int32} (C : Cx X hd code 4 RL 2048 84000) (K : Ck X E Z) (hX : va_X b L xs X.2.2.2.2.1 X.2.2.2.2.1.heap) (hbl : b < X.2.2.2.2.1.heap.size) (hbA : ¬ Z b) (hL : L ≤ 2048) (hkc : kc ≤ X.2.2.2.1.cells) (hkn : kn ≤ X.2.2.2.1.slots) {Rel : RelT} (hs : Sim_count Rel) {j : Nat} (hj : j < 512) (hjL : 4 * j + 4 ≤ L) {V V2 : Nat → Nat → Int32} {L' L2 : Nat → Int64} (hR : Rel j V L' V2 L2) (hnext : ∀ (V : Nat → Nat → Int32) (L' : Nat → Int64) (V2 : Nat → Nat → Int32) (L2 : Nat → Int64), Rel (j + 1) V L' V2 L2 → Wn X 4 E Z Q kc kn 808 [(0, .ref b), (1, .ref (A 0)), (2, .ref (B 0)), (3, .int (nI (4 * j)))] [] ([] ++ (cw E A V L' ++ mw E B V2 L2))) : Wn X 4 E Z Q kc kn 771 [(0, .ref b), (1, .ref (A 0)), (2, .ref (B 0)), (3, .int (nI (4 * j)))] [] ([] ++ (cw E A V L' ++ mw E B V2 L2)) := by
  obtain ⟨r, V1, L1, V3, L3, h1, h2, h3⟩ := hs _ V L' V2 L2 (xs (4 * j + 1)) hj hR
  obtain ⟨h1, e1, e2⟩ := h1
  subst h1
  rw [e1, e2] at h3
  obtain ⟨h2, e3, e4⟩ := h2
  rw [e3, e4] at h3
  refine n_aload C dL_law_771 1 rfl rfl ?_
  refine n_aload C dL_law_772 0 rfl rfl ?_
  refine l_iload C dL_law_773 3 rfl rfl ?_
  refine n_iconst C dL_law_774 ki_1 ?_
  refine l_iadd C dL_law_775 ?_
  refine l_ld C hX hbl hbA (law_add j 1 _ (by decide)) (show 4 * j + 1 < L by omega) hL dL_law_776 ?_
  refine l_callI C K cal_RL_117 ⟨rfl, rfl, (Nat.le_of_ble_eq_true rfl), (Nat.le_of_ble_eq_true rfl)⟩ (t_X4_count _ (xs (4 * j + 1))) (wl := []) (wr := mw E B V2 L2) (cw_o0 E A _ _) rfl (cw_fst _ _ _ _ _ _) rfl (rest := []) rfl (Nat.le_of_ble_eq_true rfl) dL_law_777 hkc hkn ?_
  refine n_chg (w2 := cw E A V L' ++ (mw E B V2 L2 ++ [])) (by rw [List.nil_append, List.append_nil]) ?_
  refine n_aload C dL_law_780 2 rfl rfl ?_
  refine n_aload C dL_law_781 0 rfl rfl ?_
  refine l_iload C dL_law_782 3 rfl rfl ?_
  refine n_iconst C dL_law_783 ki_1 ?_
  refine l_iadd C dL_law_784 ?_
  refine l_ld C hX hbl hbA (law_add j 1 _ (by decide)) (show 4 * j + 1 < L by omega) hL dL_law_785 ?_
  refine l_callI C K cal_RL_120 ⟨rfl, rfl, (Nat.le_of_ble_eq_true rfl), (Nat.le_of_ble_eq_true rfl)⟩ (t_X5_count _ (xs (4 * j + 1)) h2) (wl := cw E A V L') (wr := []) (mw_o0 E B _ _) rfl (mw_fst _ _ _ _ _ _) rfl (rest := [.int (f_X4_count V L' (xs (4 * j + 1)))]) rfl (Nat.le_of_ble_eq_true rfl) dL_law_786 hkc hkn ?_
  refine n_chg (w2 := [] ++ (cw E A V L' ++ mw E B V2 L2)) (by rw [List.nil_append, List.append_nil]) ?_
  refine l_eq C (tgt := 808) dL_law_789 rfl ?_
  exact hnext _ _ _ _ h3
set_option maxRecDepth 100000 in
theorem law_digest {X : XT} {hd : Cond} {Q : State → Prop} {E : EvT} {Z : Nat → Prop} {A B : Nat → Nat} {b L kc kn : Nat} {xs : Nat → Int32} (C : Cx X hd code 4 RL 2048 84000) (K : Ck X E Z) (hX : va_X b L xs X.2.2.2.2.1 X.2.2.2.2.1.heap) (hbl : b < X.2.2.2.2.1.heap.size) (hbA : ¬ Z b) (hL : L ≤ 2048) (hkc : kc ≤ X.2.2.2.1.cells) (hkn : kn ≤ X.2.2.2.1.slots) {Rel : RelT} (hs : Sim_digest Rel) {j : Nat} (hj : j < 512) (hjL : 4 * j + 4 ≤ L) {V V2 : Nat → Nat → Int32} {L' L2 : Nat → Int64} (hR : Rel j V L' V2 L2) (hnext : ∀ (V : Nat → Nat → Int32) (L' : Nat → Int64) (V2 : Nat → Nat → Int32) (L2 : Nat → Int64), Rel (j + 1) V L' V2 L2 → Wn X 4 E Z Q kc kn 808 [(0, .ref b), (1, .ref (A 0)), (2, .ref (B 0)), (3, .int (nI (4 * j)))] [] ([] ++ (cw E A V L' ++ mw E B V2 L2))) : Wn X 4 E Z Q kc kn 794 [(0, .ref b), (1, .ref (A 0)), (2, .ref (B 0)), (3, .int (nI (4 * j)))] [] ([] ++ (cw E A V L' ++ mw E B V2 L2)) := by
  obtain ⟨r, V1, L1, V3, L3, h1, h2, h3⟩ := hs _ V L' V2 L2  hj hR
  refine n_aload C dL_law_794 1 rfl rfl ?_
  refine l_callL C K cal_RL_121 ⟨rfl, rfl, (Nat.le_of_ble_eq_true rfl), (Nat.le_of_ble_eq_true rfl)⟩ (t_X4_digest _  h1) (wl := []) (wr := mw E B V2 L2) (cw_o0 E A _ _) rfl (cw_fst _ _ _ _ _ _) rfl (rest := []) rfl (Nat.le_of_ble_eq_true rfl) dL_law_795 hkc hkn ?_
  refine n_chg (w2 := cw E A V1 L1 ++ (mw E B V2 L2 ++ [])) (by rw [List.nil_append, List.append_nil]) ?_
  refine n_aload C dL_law_798 2 rfl rfl ?_
  refine l_callL C K cal_RL_125 ⟨rfl, rfl, (Nat.le_of_ble_eq_true rfl), (Nat.le_of_ble_eq_true rfl)⟩ (t_X5_digest _  h2) (wl := cw E A V1 L1) (wr := []) (mw_o0 E B _ _) rfl (mw_fst _ _ _ _ _ _) rfl (rest := [.long r]) rfl (Nat.le_of_ble_eq_true rfl) dL_law_799 hkc hkn ?_
  refine n_chg (w2 := [] ++ (cw E A V1 L1 ++ mw E B V3 L3)) (by rw [List.nil_append, List.append_nil]) ?_
  refine l_lcmp C dL_law_802 ?_
  rw [show lg_cmp r r = 0 by simp [lg_cmp]]
  refine l_ifeq C (tgt := 808) dL_law_803 rfl ?_
  exact hnext _ _ _ _ h3
theorem law_cmp {j L : Nat} (hL : L ≤ 2048) (hj : 4 * j ≤ 4096) : nI L - 4 < nI (4 * j) ↔ L < 4 * j + 4 := by
  rw [Int32.lt_iff_toInt_lt, show (4 : Int32) = nI 4 from by decide, pk_sub_toInt (by omega) (by omega), nI_toInt (by omega)]
  omega
set_option maxRecDepth 100000 in
theorem law_loop {X : XT} {hd : Cond} {Q : State → Prop} {E : EvT} {Z : Nat → Prop} {A B : Nat → Nat} {b L kc kn : Nat} {xs : Nat → Int32} (C : Cx X hd code 4 RL 2048 84000) (K : Ck X E Z) (hX : va_X b L xs X.2.2.2.2.1 X.2.2.2.2.1.heap) (hbl : b < X.2.2.2.2.1.heap.size) (hbA : ¬ Z b) (hL : L ≤ 2048) (hkc : kc ≤ X.2.2.2.1.cells) (hkn : kn ≤ X.2.2.2.1.slots) {Rel : RelT} (hs : Sim Rel) (hend : ∀ (lv : List (Nat × Value)) (w : va_W), Wn X 4 E Z Q kc kn 814 lv [] w) : ∀ (N j : Nat) (V V2 : Nat → Nat → Int32) (L' L2 : Nat → Int64), j ≤ 512 → L < 4 * j + 4 * N → Rel j V L' V2 L2 → Wn X 4 E Z Q kc kn 18 [(0, .ref b), (1, .ref (A 0)), (2, .ref (B 0)), (3, .int (nI (4 * j)))] [] ([] ++ (cw E A V L' ++ mw E B V2 L2)) := by
  intro N
  induction N with
  | zero =>
    intro j V V2 L' L2 hj hN hR
    refine l_iload C dL_law_18 3 rfl rfl ?_
    refine n_aload C dL_law_19 0 rfl rfl ?_
    refine l_len C hX hbl hbA dL_law_20 ?_
    refine n_iconst C dL_law_21 ki_4 ?_
    refine l_isub C dL_law_22 ?_
    refine l_gt C (tgt := 814) dL_law_23 rfl (fun _ => hend _ _) (fun q => absurd ((law_cmp hL (by omega)).mpr (by omega)) q)
  | succ N ih =>
    intro j V V2 L' L2 hj hN hR
    refine l_iload C dL_law_18 3 rfl rfl ?_
    refine n_aload C dL_law_19 0 rfl rfl ?_
    refine l_len C hX hbl hbA dL_law_20 ?_
    refine n_iconst C dL_law_21 ki_4 ?_
    refine l_isub C dL_law_22 ?_
    refine l_gt C (tgt := 814) dL_law_23 rfl (fun _ => hend _ _) (fun q => ?_)
    have hjL : 4 * j + 4 ≤ L := by
      rcases Nat.lt_or_ge L (4 * j + 4) with h | h
      · exact absurd ((law_cmp hL (by omega)).mpr h) q
      · exact h
    have hj2 : j < 512 := by omega
    have hnext : ∀ (V : Nat → Nat → Int32) (L' : Nat → Int64) (V2 : Nat → Nat → Int32) (L2 : Nat → Int64), Rel (j + 1) V L' V2 L2 → Wn X 4 E Z Q kc kn 808 [(0, .ref b), (1, .ref (A 0)), (2, .ref (B 0)), (3, .int (nI (4 * j)))] [] ([] ++ (cw E A V L' ++ mw E B V2 L2)) := by
      intro V L' V2 L2 hR
      refine l_iinc C dL_law_808 3 rfl (v := nI (4 * (j + 1))) (by rw [kn_4, law_add j 4 _ (by decide), Nat.mul_add]) (Nat.le_of_ble_eq_true rfl) (lv2 := [(3, .int (nI (4 * (j + 1)))), (0, .ref b), (1, .ref (A 0)), (2, .ref (B 0))]) rfl ?_
      refine l_goto C (tgt := 18) dL_law_811 rfl ?_
      exact n_sub [1, 2, 3, 0] rfl (ih (j + 1) V V2 L' L2 (by omega) (by omega) hR)
    refine n_aload C dL_law_26 0 rfl rfl ?_
    refine l_iload C dL_law_27 3 rfl rfl ?_
    refine l_ld C hX hbl hbA (show nI (4 * j) = nI (4 * j) from rfl) (show 4 * j < L by omega) hL dL_law_28 ?_
    refine n_bipush C dL_law_29 kb_31 ?_
    refine l_iand C dL_law_31 ?_
    generalize xs (4 * j) &&& 31 = v
    by_cases h0 : v = 0
    · refine l_tblIn C (off := 124) (tgt := 156) dL_law_32 (by rw [h0]; decide) (by rw [h0]; decide) (by rw [h0]; rfl) rfl ?_
      exact law_letter C K hX hbl hbA hL hkc hkn hs.2.1 hj2 hjL hR hnext
    by_cases h1 : v = 1
    · refine l_tblIn C (off := 147) (tgt := 179) dL_law_32 (by rw [h1]; decide) (by rw [h1]; decide) (by rw [h1]; rfl) rfl ?_
      exact law_blank C K hX hbl hbA hL hkc hkn hs.2.2.1 hj2 hjL hR hnext
    by_cases h2 : v = 2
    · refine l_tblIn C (off := 160) (tgt := 192) dL_law_32 (by rw [h2]; decide) (by rw [h2]; decide) (by rw [h2]; rfl) rfl ?_
      exact law_fault C K hX hbl hbA hL hkc hkn hs.2.2.2.1 hj2 hjL hR hnext
    by_cases h3 : v = 3
    · refine l_tblIn C (off := 173) (tgt := 205) dL_law_32 (by rw [h3]; decide) (by rw [h3]; decide) (by rw [h3]; rfl) rfl ?_
      exact law_ring C K hX hbl hbA hL hkc hkn hs.2.2.2.2.1 hj2 hjL hR hnext
    by_cases h4 : v = 4
    · refine l_tblIn C (off := 186) (tgt := 218) dL_law_32 (by rw [h4]; decide) (by rw [h4]; decide) (by rw [h4]; rfl) rfl ?_
      exact law_child C K hX hbl hbA hL hkc hkn hs.2.2.2.2.2.1 hj2 hjL hR hnext
    by_cases h5 : v = 5
    · refine l_tblIn C (off := 219) (tgt := 251) dL_law_32 (by rw [h5]; decide) (by rw [h5]; decide) (by rw [h5]; rfl) rfl ?_
      exact law_as C K hX hbl hbA hL hkc hkn hs.2.2.2.2.2.2.1 hj2 hjL hR hnext
    by_cases h6 : v = 6
    · refine l_tblIn C (off := 252) (tgt := 284) dL_law_32 (by rw [h6]; decide) (by rw [h6]; decide) (by rw [h6]; rfl) rfl ?_
      exact law_verse C K hX hbl hbA hL hkc hkn hs.2.2.2.2.2.2.2.1 hj2 hjL hR hnext
    by_cases h7 : v = 7
    · refine l_tblIn C (off := 285) (tgt := 317) dL_law_32 (by rw [h7]; decide) (by rw [h7]; decide) (by rw [h7]; rfl) rfl ?_
      exact law_say C K hX hbl hbA hL hkc hkn hs.2.2.2.2.2.2.2.2.1 hj2 hjL hR hnext
    by_cases h8 : v = 8
    · refine l_tblIn C (off := 308) (tgt := 340) dL_law_32 (by rw [h8]; decide) (by rw [h8]; decide) (by rw [h8]; rfl) rfl ?_
      exact law_back C K hX hbl hbA hL hkc hkn hs.2.2.2.2.2.2.2.2.2.1 hj2 hjL hR hnext
    by_cases h9 : v = 9
    · refine l_tblIn C (off := 331) (tgt := 363) dL_law_32 (by rw [h9]; decide) (by rw [h9]; decide) (by rw [h9]; rfl) rfl ?_
      exact law_first C K hX hbl hbA hL hkc hkn hs.2.2.2.2.2.2.2.2.2.2.1 hj2 hjL hR hnext
    by_cases h10 : v = 10
    · refine l_tblIn C (off := 354) (tgt := 386) dL_law_32 (by rw [h10]; decide) (by rw [h10]; decide) (by rw [h10]; rfl) rfl ?_
      exact law_turn C K hX hbl hbA hL hkc hkn hs.2.2.2.2.2.2.2.2.2.2.2.1 hj2 hjL hR hnext
    by_cases h11 : v = 11
    · refine l_tblIn C (off := 367) (tgt := 399) dL_law_32 (by rw [h11]; decide) (by rw [h11]; decide) (by rw [h11]; rfl) rfl ?_
      exact law_beats C K hX hbl hbA hL hkc hkn hs.2.2.2.2.2.2.2.2.2.2.2.2.1 hj2 hjL hR hnext
    by_cases h12 : v = 12
    · refine l_tblIn C (off := 400) (tgt := 432) dL_law_32 (by rw [h12]; decide) (by rw [h12]; decide) (by rw [h12]; rfl) rfl ?_
      exact law_be C K hX hbl hbA hL hkc hkn hs.2.2.2.2.2.2.2.2.2.2.2.2.2.1 hj2 hjL hR hnext
    by_cases h13 : v = 13
    · refine l_tblIn C (off := 433) (tgt := 465) dL_law_32 (by rw [h13]; decide) (by rw [h13]; decide) (by rw [h13]; rfl) rfl ?_
      exact law_last C K hX hbl hbA hL hkc hkn hs.2.2.2.2.2.2.2.2.2.2.2.2.2.2.1 hj2 hjL hR hnext
    by_cases h14 : v = 14
    · refine l_tblIn C (off := 456) (tgt := 488) dL_law_32 (by rw [h14]; decide) (by rw [h14]; decide) (by rw [h14]; rfl) rfl ?_
      exact law_begin C K hX hbl hbA hL hkc hkn hs.2.2.2.2.2.2.2.2.2.2.2.2.2.2.2.1 hj2 hjL hR hnext
    by_cases h15 : v = 15
    · refine l_tblIn C (off := 489) (tgt := 521) dL_law_32 (by rw [h15]; decide) (by rw [h15]; decide) (by rw [h15]; rfl) rfl ?_
      exact law_stand C K hX hbl hbA hL hkc hkn hs.2.2.2.2.2.2.2.2.2.2.2.2.2.2.2.2.1 hj2 hjL hR hnext
    by_cases h16 : v = 16
    · refine l_tblIn C (off := 522) (tgt := 554) dL_law_32 (by rw [h16]; decide) (by rw [h16]; decide) (by rw [h16]; rfl) rfl ?_
      exact law_game C K hX hbl hbA hL hkc hkn hs.2.2.2.2.2.2.2.2.2.2.2.2.2.2.2.2.2.1 hj2 hjL hR hnext
    by_cases h17 : v = 17
    · refine l_tblIn C (off := 565) (tgt := 597) dL_law_32 (by rw [h17]; decide) (by rw [h17]; decide) (by rw [h17]; rfl) rfl ?_
      exact law_likely C K hX hbl hbA hL hkc hkn hs.2.2.2.2.2.2.2.2.2.2.2.2.2.2.2.2.2.2.1 hj2 hjL hR hnext
    by_cases h18 : v = 18
    · refine l_tblIn C (off := 598) (tgt := 630) dL_law_32 (by rw [h18]; decide) (by rw [h18]; decide) (by rw [h18]; rfl) rfl ?_
      exact law_see C K hX hbl hbA hL hkc hkn hs.2.2.2.2.2.2.2.2.2.2.2.2.2.2.2.2.2.2.2.1 hj2 hjL hR hnext
    by_cases h19 : v = 19
    · refine l_tblIn C (off := 631) (tgt := 663) dL_law_32 (by rw [h19]; decide) (by rw [h19]; decide) (by rw [h19]; rfl) rfl ?_
      exact law_forget C K hX hbl hbA hL hkc hkn hs.2.2.2.2.2.2.2.2.2.2.2.2.2.2.2.2.2.2.2.2.1 hj2 hjL hR hnext
    by_cases h20 : v = 20
    · refine l_tblIn C (off := 644) (tgt := 676) dL_law_32 (by rw [h20]; decide) (by rw [h20]; decide) (by rw [h20]; rfl) rfl ?_
      exact law_lengths C K hX hbl hbA hL hkc hkn hs.2.2.2.2.2.2.2.2.2.2.2.2.2.2.2.2.2.2.2.2.2.1 hj2 hjL hR hnext
    by_cases h21 : v = 21
    · refine l_tblIn C (off := 657) (tgt := 689) dL_law_32 (by rw [h21]; decide) (by rw [h21]; decide) (by rw [h21]; rfl) rfl ?_
      exact law_from C K hX hbl hbA hL hkc hkn hs.2.2.2.2.2.2.2.2.2.2.2.2.2.2.2.2.2.2.2.2.2.2.1 hj2 hjL hR hnext
    by_cases h22 : v = 22
    · refine l_tblIn C (off := 670) (tgt := 702) dL_law_32 (by rw [h22]; decide) (by rw [h22]; decide) (by rw [h22]; rfl) rfl ?_
      exact law_rounds C K hX hbl hbA hL hkc hkn hs.2.2.2.2.2.2.2.2.2.2.2.2.2.2.2.2.2.2.2.2.2.2.2.1 hj2 hjL hR hnext
    by_cases h23 : v = 23
    · refine l_tblIn C (off := 713) (tgt := 745) dL_law_32 (by rw [h23]; decide) (by rw [h23]; decide) (by rw [h23]; rfl) rfl ?_
      exact law_image C K hX hbl hbA hL hkc hkn hs.2.2.2.2.2.2.2.2.2.2.2.2.2.2.2.2.2.2.2.2.2.2.2.2.1 hj2 hjL hR hnext
    by_cases h24 : v = 24
    · refine l_tblIn C (off := 726) (tgt := 758) dL_law_32 (by rw [h24]; decide) (by rw [h24]; decide) (by rw [h24]; rfl) rfl ?_
      exact law_restore C K hX hbl hbA hL hkc hkn hs.2.2.2.2.2.2.2.2.2.2.2.2.2.2.2.2.2.2.2.2.2.2.2.2.2.1 hj2 hjL hR hnext
    by_cases h25 : v = 25
    · refine l_tblIn C (off := 739) (tgt := 771) dL_law_32 (by rw [h25]; decide) (by rw [h25]; decide) (by rw [h25]; rfl) rfl ?_
      exact law_count C K hX hbl hbA hL hkc hkn hs.2.2.2.2.2.2.2.2.2.2.2.2.2.2.2.2.2.2.2.2.2.2.2.2.2.2.1 hj2 hjL hR hnext
    by_cases h26 : v = 26
    · refine l_tblIn C (off := 762) (tgt := 794) dL_law_32 (by rw [h26]; decide) (by rw [h26]; decide) (by rw [h26]; rfl) rfl ?_
      exact law_digest C K hX hbl hbA hL hkc hkn hs.2.2.2.2.2.2.2.2.2.2.2.2.2.2.2.2.2.2.2.2.2.2.2.2.2.2.2 hj2 hjL hR hnext
    refine l_tblOut C (tgt := 808) dL_law_32 (by have q0 := lv_neT (a := 0) h0 rfl; have q1 := lv_neT (a := 1) h1 rfl; have q2 := lv_neT (a := 2) h2 rfl; have q3 := lv_neT (a := 3) h3 rfl; have q4 := lv_neT (a := 4) h4 rfl; have q5 := lv_neT (a := 5) h5 rfl; have q6 := lv_neT (a := 6) h6 rfl; have q7 := lv_neT (a := 7) h7 rfl; have q8 := lv_neT (a := 8) h8 rfl; have q9 := lv_neT (a := 9) h9 rfl; have q10 := lv_neT (a := 10) h10 rfl; have q11 := lv_neT (a := 11) h11 rfl; have q12 := lv_neT (a := 12) h12 rfl; have q13 := lv_neT (a := 13) h13 rfl; have q14 := lv_neT (a := 14) h14 rfl; have q15 := lv_neT (a := 15) h15 rfl; have q16 := lv_neT (a := 16) h16 rfl; have q17 := lv_neT (a := 17) h17 rfl; have q18 := lv_neT (a := 18) h18 rfl; have q19 := lv_neT (a := 19) h19 rfl; have q20 := lv_neT (a := 20) h20 rfl; have q21 := lv_neT (a := 21) h21 rfl; have q22 := lv_neT (a := 22) h22 rfl; have q23 := lv_neT (a := 23) h23 rfl; have q24 := lv_neT (a := 24) h24 rfl; have q25 := lv_neT (a := 25) h25 rfl; have q26 := lv_neT (a := 26) h26 rfl; omega) rfl ?_
    exact hnext _ _ _ _ (hs.1 _ _ _ _ _ hR)
