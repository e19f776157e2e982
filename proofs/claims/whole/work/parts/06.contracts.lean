/-- the start of a method with the world w -/
def PreK (E : EvT) (w : va_W) (av : List Value) (sz : Nat) : Array Value → State → Prop := va_Pc av (fun U => U.heap.size = sz ∧ va_P E.1 vwCl w U.heap ∧ va_K E.1 vwCl (tyE E) U ∧ NW U ∧ SE E (va_A w sz) U U.heap ∧ va_D (fun _ => True) w)
def KI (l : Launch) (y : MethodName) (ws : List Cond) (rm : Room) (E : EvT) (w1 w2 : va_W) (av : List Value) (r : Int32) : Prop := ∀ sz : Nat, Met l y ws rm (PreK E w1 av sz) (va_Qi (fun (r2 : Int32) (_ : Unit) => r2 = r) (fun _ t => va_P E.1 vwCl w2 t.heap) (va_A w1 sz)) 0 0 (va_A w1 sz)
def KL (l : Launch) (y : MethodName) (ws : List Cond) (rm : Room) (E : EvT) (w1 w2 : va_W) (av : List Value) (r : Int64) : Prop := ∀ sz : Nat, Met l y ws rm (PreK E w1 av sz) (va_Ql (fun (r2 : Int64) (_ : Unit) => r2 = r) (fun _ t => va_P E.1 vwCl w2 t.heap) (va_A w1 sz)) 0 0 (va_A w1 sz)
def KV (l : Launch) (y : MethodName) (ws : List Cond) (rm : Room) (E : EvT) (w1 w2 : va_W) (av : List Value) : Prop := ∀ sz : Nat, Met l y ws rm (PreK E w1 av sz) (va_Qv (fun (_ : Unit) => True) (fun _ t => va_P E.1 vwCl w2 t.heap) (va_A w1 sz)) 0 0 (va_A w1 sz)
/-- a static method that needs no heap -/
def KP (l : Launch) (y : MethodName) (ws : List Cond) (rm : Room) (av : List Value) (r : Int32) : Prop := Met l y ws rm (fun v _ => v = av.toArray) (QcRead r) 0 0 (fun _ => False)
theorem PreK.blind {E : EvT} {w : va_W} {av : List Value} {sz : Nat} : FrameBlind (PreK E w av sz) := fun a U g mk q => ⟨q.1, q.2.1, q.2.2.1, va_K.moved (u := U) (U := U.calling g mk a) (Vm.Alike.refl U.vm) q.2.2.2.1, NW.same (u := U) rfl q.2.2.2.2.1, SE.same (u := U) rfl q.2.2.2.2.2.1, q.2.2.2.2.2.2⟩
/-- what may change belongs to the caller -/
theorem a_free {Z : Nat → Prop} {w : va_W} {H0 H : Heap} {locs : List Loc} (hD : va_D Z w) (hS : va_S Z H0 H locs) (hA : ∀ q, H0.size ≤ q → Z q) : ∀ q, va_A w H.size q → Z q := by
  intro q h
  rcases h with ⟨k, e, h⟩ | h
  · exact hD.2 k (q, e) h
  · exact hA q (Nat.le_trans hS.1 h)
theorem d_fst {Z : Nat → Prop} {w1 w2 : va_W} (h : w1.map Prod.fst = w2.map Prod.fst) (hD : va_D Z w1) : va_D Z w2 := by
  have key : ∀ (i : Nat) (p : Nat × va_E), w2[i]? = some p → ∃ p2 : Nat × va_E, w1[i]? = some p2 ∧ p2.1 = p.1 := by
    intro i p hp
    have h1 : (w2.map Prod.fst)[i]? = some p.1 := by rw [List.getElem?_map, hp]; rfl
    rw [← h, List.getElem?_map] at h1
    cases h2 : w1[i]? with
    | none => rw [h2] at h1; cases h1
    | some p2 => rw [h2] at h1; exact ⟨p2, rfl, Option.some.inj h1⟩
  refine ⟨fun i j p q hi hj e => ?_, fun k q hk => ?_⟩
  · obtain ⟨p2, a1, a2⟩ := key i p hi
    obtain ⟨q2, b1, b2⟩ := key j q hj
    exact hD.1 i j p2 q2 a1 b1 (by rw [a2, b2, e])
  · obtain ⟨q2, b1, b2⟩ := key k q hk
    rw [← b2]
    exact hD.2 k q2 b1
/-- the words of a call of an object's method -/
def Cal (own : String) (idx : Nat) (Cc : String) (y : MethodName) (bytes : ByteArray) (mL : Nat) (rt : Option FieldType) (n : Nat) : Prop :=
  Cond.methodLink own idx y ∈ wA ∧ Cond.instanceMethod y ∈ wA ∧ Cond.selects Cc y y ∈ wA ∧ Cond.initialized Cc ∈ wA ∧ Cond.code y bytes mL rt ∈ wA ∧ y.cls = Cc ∧ y.cls ≠ "java/lang/invoke/MethodHandle" ∧ y.cls ≠ "java/lang/invoke/VarHandle" ∧ (parseMethodDescriptor y.desc).map (fun d => d.parameters.length) = some n
/-- the words of a call of a static method -/
def Cas (own : String) (idx : Nat) (y : MethodName) (bytes : ByteArray) (mL : Nat) (rt : Option FieldType) (n : Nat) : Prop :=
  Cond.methodLink own idx y ∈ wA ∧ Cond.static y ∈ wA ∧ Cond.initialized y.cls ∈ wA ∧ Cond.code y bytes mL rt ∈ wA ∧ y.cls ≠ "java/lang/invoke/MethodHandle" ∧ y.cls ≠ "java/lang/invoke/VarHandle" ∧ (parseMethodDescriptor y.desc).map (fun d => d.parameters.length) = some n
/-- the callee's room fits -/
def Rmf (rm : Room) (mL fr lo : Nat) : Prop := rm.cells = 0 ∧ rm.slots = 0 ∧ rm.frames + 1 ≤ fr ∧ 8 + (mL + 11) + rm.locals ≤ lo
section CL
variable {X : XT} {hd : Cond} {cc : ByteArray} {nL : Nat} {own : String} {fr lo : Nat} {Q : State → Prop} {pc : Nat} {lv : List (Nat × Value)} {st rest : List Value} {E : EvT} {Z : Nat → Prop}
variable {y : MethodName} {bytes : ByteArray} {mL n idx : Nat} {rt : Option FieldType} {Cc : String} {rm : Room} {w1 w2 : va_W} {b : Nat} {As : List Value} {H : Heap} {locs : List Loc} {ls : Array Slot}
theorem cal_w (C : Cx X hd cc nL own fr lo) (cal : Cal own idx Cc y bytes mL rt n) (hrm : Rmf rm mL fr lo) : CallW X.2.2.2.1 X.2.2.2.2.1 X.2.2.2.2.2.2.1 own Cc idx y bytes mL rt (.code y bytes mL rt :: wA) rm 0 0 n := by
  obtain ⟨h1, h2, h3, h4, h5, h6⟩ := cal
  refine cwV n C.2.2.2.2.1 (gd_all ?_) rfl hrm.1 hrm.2.1 h6 ⟨by rw [C.2.2.2.2.2.1]; exact hrm.2.2.1, by rw [C.2.2.2.2.2.2]; exact hrm.2.2.2⟩
  intro w hw
  rcases List.mem_append.mp hw with h | h
  · rcases List.mem_cons.mp h with rfl | h
    · exact h1
    rcases List.mem_cons.mp h with rfl | h
    · exact h2
    rcases List.mem_cons.mp h with rfl | h
    · exact h3
    rcases List.mem_cons.mp h with rfl | h
    · exact h4
    exact absurd h List.not_mem_nil
  · rcases List.mem_cons.mp h with rfl | h
    · exact h5
    exact h
theorem cas_w (C : Cx X hd cc nL own fr lo) (cas : Cas own idx y bytes mL rt n) (hrm : Rmf rm mL fr lo) : CallB X.2.2.2.1 X.2.2.2.2.1 X.2.2.2.2.2.2.1 own idx y bytes mL rt (.code y bytes mL rt :: wA) rm 0 0 n ∧ (Cond.static y).before X.2.2.2.2.2.2.1 X.2.2.2.2.1 = true := by
  obtain ⟨h1, h2, h3, h4, h6⟩ := cas
  have ok : ∀ w ∈ wA, w.before X.2.2.2.2.2.2.1 X.2.2.2.2.1 = true := fun w h => C.2.2.2.2.1 w (List.mem_cons_of_mem _ h)
  exact ⟨callB_of n C.2.2.2.2.1 (gd_cons h4) rfl hrm.1 hrm.2.1 (ok _ h3) (ok _ h1) h6 ⟨by rw [C.2.2.2.2.2.1]; exact hrm.2.2.1, by rw [C.2.2.2.2.2.2]; exact hrm.2.2.2⟩, ok _ h2⟩
theorem pre_w (K : Ck X E Z) (hI : IW X E Z w1 H locs) {q ci : Nat} {fs : List Value} {T : u_T} {N : Nat} (he : w1[q]? = some (b, .inr (ci, fs))) (hcl : vwCl[ci]? = some (Cc, T, N)) : PreV X.2.2.2.2.1 H Cc b (PreK E w1 (.ref b :: As) H.size) As :=
  ⟨PreK.blind, va_recv K.1 hI.1 hcl he, fun U hU hW => ⟨rfl, by rw [hU], by rw [hU]; exact hI.1, va_K.moved hW.alike K.1, K.2.1.warm hW, by
    rw [hU]
    exact ((K.2.2.1.warm hW).kept (fun a h1 h2 => hI.2.2.2.1 a h1 h2)).narrow (a_free hI.2.1 hI.2.2 K.2.2.2), ⟨hI.2.1.1, fun _ _ _ => trivial⟩⟩⟩
theorem call_I (C : Cx X hd cc nL own fr lo) (K : Ck X E Z) (cal : Cal own idx Cc y bytes mL rt n) (hrm : Rmf rm mL fr lo) {r : Int32} (hM : KI X.2.1 y (.code y bytes mL rt :: wA) rm E w1 w2 (.ref b :: As) r) {q ci : Nat} {fs : List Value} {T : u_T} {N : Nat} (he : w1[q]? = some (b, .inr (ci, fs))) (hcl : vwCl[ci]? = some (Cc, T, N)) (hfst : w1.map Prod.fst = w2.map Prod.fst) (hn : As.length = n) (hst : st = As.reverse ++ .ref b :: rest) (hrest : (rest.map fun v => v.category).sum ≤ 8) (hdg : decode cc pc = .ok (.invokevirtual idx, 3)) (hI : IW X E Z w1 H locs) (hl : lv_has ls nL lv)
    (kk : ∀ (H1 : Heap) (locs1 : List Loc), IW X E Z w2 H1 locs1 → Wx X H1 locs1 Q (pc + 3) ls (.int r :: rest)) : Wx X H locs Q pc ls st := by
  subst hst
  refine va_calli (va_runV (As := As) (rest := rest) ⟨C.1, C.2.1, C.2.2.1, C.2.2.2.1, C.2.2.2.2.1⟩ (hM H.size) (cal_w C cal hrm) (pre_w K hI he hcl) rfl hn hl.1 rfl (lv_room hrest) hdg ⟨Nat.zero_le _, Nat.zero_le _⟩) hI.2.2 (fun q _ h => a_free hI.2.1 hI.2.2 K.2.2.2 q h) (a_free hI.2.1 hI.2.2 K.2.2.2) (fun r2 u t H1 locs1 ht hvm hw hB hz1 hk1 hS => ?_)
  subst hw
  exact kk H1 locs1 ⟨by rw [← ht]; exact hB, d_fst hfst hI.2.1, hS⟩
theorem call_L (C : Cx X hd cc nL own fr lo) (K : Ck X E Z) (cal : Cal own idx Cc y bytes mL rt n) (hrm : Rmf rm mL fr lo) {r : Int64} (hM : KL X.2.1 y (.code y bytes mL rt :: wA) rm E w1 w2 (.ref b :: As) r) {q ci : Nat} {fs : List Value} {T : u_T} {N : Nat} (he : w1[q]? = some (b, .inr (ci, fs))) (hcl : vwCl[ci]? = some (Cc, T, N)) (hfst : w1.map Prod.fst = w2.map Prod.fst) (hn : As.length = n) (hst : st = As.reverse ++ .ref b :: rest) (hrest : (rest.map fun v => v.category).sum ≤ 8) (hdg : decode cc pc = .ok (.invokevirtual idx, 3)) (hI : IW X E Z w1 H locs) (hl : lv_has ls nL lv)
    (kk : ∀ (H1 : Heap) (locs1 : List Loc), IW X E Z w2 H1 locs1 → Wx X H1 locs1 Q (pc + 3) ls (.long r :: rest)) : Wx X H locs Q pc ls st := by
  subst hst
  refine va_calll (va_runV (As := As) (rest := rest) ⟨C.1, C.2.1, C.2.2.1, C.2.2.2.1, C.2.2.2.2.1⟩ (hM H.size) (cal_w C cal hrm) (pre_w K hI he hcl) rfl hn hl.1 rfl (lv_room hrest) hdg ⟨Nat.zero_le _, Nat.zero_le _⟩) hI.2.2 (fun q _ h => a_free hI.2.1 hI.2.2 K.2.2.2 q h) (a_free hI.2.1 hI.2.2 K.2.2.2) (fun r2 u t H1 locs1 ht hvm hw hB hz1 hk1 hS => ?_)
  subst hw
  exact kk H1 locs1 ⟨by rw [← ht]; exact hB, d_fst hfst hI.2.1, hS⟩
theorem call_V (C : Cx X hd cc nL own fr lo) (K : Ck X E Z) (cal : Cal own idx Cc y bytes mL rt n) (hrm : Rmf rm mL fr lo) (hM : KV X.2.1 y (.code y bytes mL rt :: wA) rm E w1 w2 (.ref b :: As)) {q ci : Nat} {fs : List Value} {T : u_T} {N : Nat} (he : w1[q]? = some (b, .inr (ci, fs))) (hcl : vwCl[ci]? = some (Cc, T, N)) (hfst : w1.map Prod.fst = w2.map Prod.fst) (hn : As.length = n) (hst : st = As.reverse ++ .ref b :: rest) (hrest : (rest.map fun v => v.category).sum ≤ 8) (hdg : decode cc pc = .ok (.invokevirtual idx, 3)) (hI : IW X E Z w1 H locs) (hl : lv_has ls nL lv)
    (kk : ∀ (H1 : Heap) (locs1 : List Loc), IW X E Z w2 H1 locs1 → Wx X H1 locs1 Q (pc + 3) ls rest) : Wx X H locs Q pc ls st := by
  subst hst
  refine va_callv (va_runV (As := As) (rest := rest) ⟨C.1, C.2.1, C.2.2.1, C.2.2.2.1, C.2.2.2.2.1⟩ (hM H.size) (cal_w C cal hrm) (pre_w K hI he hcl) rfl hn hl.1 rfl (lv_room hrest) hdg ⟨Nat.zero_le _, Nat.zero_le _⟩) hI.2.2 (fun q _ h => a_free hI.2.1 hI.2.2 K.2.2.2 q h) (a_free hI.2.1 hI.2.2 K.2.2.2) (fun u t H1 locs1 ht hvm hw hB hz1 hk1 hS => ?_)
  exact kk H1 locs1 ⟨by rw [← ht]; exact hB, d_fst hfst hI.2.1, hS⟩
/-- a static call without a heap: the heap stays as it is -/
theorem r_callP {S : Type} {I : S → Heap → List Loc → Prop} {σ : S} (C : Cx X hd cc nL own fr lo) (cas : Cas own idx y bytes mL rt n) (hrm : Rmf rm mL fr lo) {r : Int32} (hM : KP X.2.1 y (.code y bytes mL rt :: wA) rm As r) (hn : As.length = n) (hst : st = As.reverse ++ rest) (hrest : (rest.map fun v => v.category).sum ≤ 8) (hdg : decode cc pc = .ok (.invokestatic idx, 3)) (kk : Wm X nL I Q (pc + 3) lv (.int r :: rest) σ) : Wm X nL I Q pc lv st σ := by
  subst hst
  exact fun H locs ls hI hl => W.callR (W.runS (As := As) (rest := rest) ⟨C.1, C.2.1, C.2.2.1, C.2.2.2.1, C.2.2.2.2.1⟩ hM (cas_w C cas hrm) preEq rfl hn hl.1 rfl (lv_room hrest) hdg ⟨Nat.zero_le _, Nat.zero_le _⟩) (kk H locs ls hI hl)
end CL
section EN
variable {l : Launch} {y : MethodName} {cc : ByteArray} {nL : Nat} {rt : Option FieldType} {rm : Room} {E : EvT} {w1 w2 : va_W} {av : List Value} {lv0 : List (Nat × Value)} {own : String}
theorem ent_I {r : Int32} {ty : FieldType} (hy : plainName y.cls = true) (ho : y.cls = own) (hrt : rt = some ty) (hav : (lg_sl av).length ≤ nL) (hlv : lv_args 0 av = lv0) (hfst : w1.map Prod.fst = w2.map Prod.fst)
    (body : ∀ (X : XT) (Z : Nat → Prop) (Q : State → Prop), X.2.1 = l → Cx X (.code y cc nL rt) cc nL own rm.frames rm.locals → Ck X E Z → (∀ (pc : Nat) (lv : List (Nat × Value)), decode cc pc = .ok (.ireturn, 1) → narrow ty (.int r) = .int r → ∀ (H : Heap) (locs : List Loc) (ls : Array Slot), IW X E Z w2 H locs → lv_has ls nL lv → Wx X H locs Q pc ls [.int r]) → ∀ (H : Heap) (locs : List Loc) (ls : Array Slot), IW X E Z w1 H locs → lv_has ls nL lv0 → Wx X H locs Q 0 ls []) :
    KI l y (.code y cc nL rt :: wA) rm E w1 w2 av r := by
  intro sz
  refine Met.ofW (cc := cc) (maxL := nL) (ret := rt) hy rfl ?_
  intro p e s m args below meth c s₁ B hml hv
  obtain ⟨rfl, hsz, hP, hK, hN, hE, hD0⟩ := hv
  have hx := B.exec
  have hb := B.bytes
  have hr := B.returns
  have hts := atoms_spec (ws := .code y cc nL rt :: wA) B.pre
  have hown : s.vm.findClass own = some m.cls := by rw [← ho]; exact findClass_of_methodNamed B.named
  have hlocks := B.notSynchronized
  subst hsz
  have hl := lv_entry av (n := nL) hav
  rw [lg_entry_eq]
  rw [hlv] at hl
  refine body (p, l, e, _, s, m, av.toArray, below, meth, c) (va_A w1 s.heap.size) _ rfl ⟨hx, hb, hml, hown, hts, rfl, rfl⟩ ⟨hK, hN, hE, fun q h => Or.inr h⟩ ?_ s.heap [] _ ⟨hP, hD0.self, va_S.rf⟩ hl
  intro pc lv hdg hn H locs ls hI hl2
  exact W.zret (v := r) (ty := ty) hx hb (hr.trans hrt) hn (fun t ht hW => ⟨⟨r, (), rfl, rfl, show va_P E.1 vwCl w2 t.heap by rw [ht]; exact hI.1⟩, hI.2.2.F ht⟩) hI.2.2.2.2 hdg
theorem ent_L {r : Int64} (hy : plainName y.cls = true) (ho : y.cls = own) (hrt : rt = some .long) (hav : (lg_sl av).length ≤ nL) (hlv : lv_args 0 av = lv0) (hfst : w1.map Prod.fst = w2.map Prod.fst)
    (body : ∀ (X : XT) (Z : Nat → Prop) (Q : State → Prop), X.2.1 = l → Cx X (.code y cc nL rt) cc nL own rm.frames rm.locals → Ck X E Z → (∀ (pc : Nat) (lv : List (Nat × Value)), decode cc pc = .ok (.lreturn, 1) → ∀ (H : Heap) (locs : List Loc) (ls : Array Slot), IW X E Z w2 H locs → lv_has ls nL lv → Wx X H locs Q pc ls [.long r]) → ∀ (H : Heap) (locs : List Loc) (ls : Array Slot), IW X E Z w1 H locs → lv_has ls nL lv0 → Wx X H locs Q 0 ls []) :
    KL l y (.code y cc nL rt :: wA) rm E w1 w2 av r := by
  intro sz
  refine Met.ofW (cc := cc) (maxL := nL) (ret := rt) hy rfl ?_
  intro p e s m args below meth c s₁ B hml hv
  obtain ⟨rfl, hsz, hP, hK, hN, hE, hD0⟩ := hv
  have hx := B.exec
  have hb := B.bytes
  have hr := B.returns
  have hts := atoms_spec (ws := .code y cc nL rt :: wA) B.pre
  have hown : s.vm.findClass own = some m.cls := by rw [← ho]; exact findClass_of_methodNamed B.named
  have hlocks := B.notSynchronized
  subst hsz
  have hl := lv_entry av (n := nL) hav
  rw [lg_entry_eq]
  rw [hlv] at hl
  refine body (p, l, e, _, s, m, av.toArray, below, meth, c) (va_A w1 s.heap.size) _ rfl ⟨hx, hb, hml, hown, hts, rfl, rfl⟩ ⟨hK, hN, hE, fun q h => Or.inr h⟩ ?_ s.heap [] _ ⟨hP, hD0.self, va_S.rf⟩ hl
  intro pc lv hdg H locs ls hI hl2
  exact W.lret (v := r) hx hb (hr.trans hrt) (fun t ht hW => ⟨⟨r, (), rfl, rfl, show va_P E.1 vwCl w2 t.heap by rw [ht]; exact hI.1⟩, hI.2.2.F ht⟩) hI.2.2.2.2 hdg
theorem ent_V (hy : plainName y.cls = true) (ho : y.cls = own) (hrt : rt = none) (hav : (lg_sl av).length ≤ nL) (hlv : lv_args 0 av = lv0) (hfst : w1.map Prod.fst = w2.map Prod.fst)
    (body : ∀ (X : XT) (Z : Nat → Prop) (Q : State → Prop), X.2.1 = l → Cx X (.code y cc nL rt) cc nL own rm.frames rm.locals → Ck X E Z → (∀ (pc : Nat) (lv : List (Nat × Value)), decode cc pc = .ok (.return_, 1) → ∀ (H : Heap) (locs : List Loc) (ls : Array Slot), IW X E Z w2 H locs → lv_has ls nL lv → Wx X H locs Q pc ls []) → ∀ (H : Heap) (locs : List Loc) (ls : Array Slot), IW X E Z w1 H locs → lv_has ls nL lv0 → Wx X H locs Q 0 ls []) :
    KV l y (.code y cc nL rt :: wA) rm E w1 w2 av := by
  intro sz
  refine Met.ofW (cc := cc) (maxL := nL) (ret := rt) hy rfl ?_
  intro p e s m args below meth c s₁ B hml hv
  obtain ⟨rfl, hsz, hP, hK, hN, hE, hD0⟩ := hv
  have hx := B.exec
  have hb := B.bytes
  have hr := B.returns
  have hts := atoms_spec (ws := .code y cc nL rt :: wA) B.pre
  have hown : s.vm.findClass own = some m.cls := by rw [← ho]; exact findClass_of_methodNamed B.named
  have hlocks := B.notSynchronized
  subst hsz
  have hl := lv_entry av (n := nL) hav
  rw [lg_entry_eq]
  rw [hlv] at hl
  refine body (p, l, e, _, s, m, av.toArray, below, meth, c) (va_A w1 s.heap.size) _ rfl ⟨hx, hb, hml, hown, hts, rfl, rfl⟩ ⟨hK, hN, hE, fun q h => Or.inr h⟩ ?_ s.heap [] _ ⟨hP, hD0.self, va_S.rf⟩ hl
  intro pc lv hdg H locs ls hI hl2
  exact W.vret hx hb (hr.trans hrt) (fun t ht hW => ⟨⟨(), rfl, trivial, show va_P E.1 vwCl w2 t.heap by rw [ht]; exact hI.1⟩, hI.2.2.F ht⟩) hI.2.2.2.2 hdg
theorem ent_P {r : Int32} {ty : FieldType} (hy : plainName y.cls = true) (ho : y.cls = own) (hrt : rt = some ty) (hav : (lg_sl av).length ≤ nL) (hlv : lv_args 0 av = lv0)
    (body : ∀ (X : XT) (Q : State → Prop), X.2.1 = l → Cx X (.code y cc nL rt) cc nL own rm.frames rm.locals → (∀ (pc : Nat) (lv : List (Nat × Value)), decode cc pc = .ok (.ireturn, 1) → narrow ty (.int r) = .int r → Wm X nL (IP X) Q pc lv [.int r] ()) → Wm X nL (IP X) Q 0 lv0 [] ()) :
    KP l y (.code y cc nL rt :: wA) rm av r := by
  refine Met.ofW (cc := cc) (maxL := nL) (ret := rt) hy rfl ?_
  intro p e s m args below meth c s₁ B hml hv
  subst hv
  have hx := B.exec
  have hb := B.bytes
  have hr := B.returns
  have hts := atoms_spec (ws := .code y cc nL rt :: wA) B.pre
  have hown : s.vm.findClass own = some m.cls := by rw [← ho]; exact findClass_of_methodNamed B.named
  have hlocks := B.notSynchronized
  have hl := lv_entry av (n := nL) hav
  rw [lg_entry_eq]
  rw [hlv] at hl
  refine body (p, l, e, _, s, m, av.toArray, below, meth, c) _ rfl ⟨hx, hb, hml, hown, hts, rfl, rfl⟩ ?_ s.heap [] _ ⟨rfl, rfl⟩ hl
  intro pc lv hdg hn H locs ls hI hl2
  obtain ⟨rfl, rfl⟩ := hI
  exact W.zret (v := r) (ty := ty) hx hb (hr.trans hrt) hn (fun t ht hW => ⟨rfl, ht⟩) (fun q h => by cases h) hdg
end EN
